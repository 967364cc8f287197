import java.io.InputStream;
import java.lang.reflect.Modifier;
import java.nio.file.Files;
import java.nio.file.Path;
import java.util.HashMap;
import java.util.HashSet;
import java.util.List;
import java.util.Map;
import java.util.Set;
import java.util.TreeMap;
import java.util.TreeSet;
import jdk.internal.org.objectweb.asm.ClassReader;
import jdk.internal.org.objectweb.asm.Opcodes;
import jdk.internal.org.objectweb.asm.tree.AbstractInsnNode;
import jdk.internal.org.objectweb.asm.tree.ClassNode;
import jdk.internal.org.objectweb.asm.tree.FieldNode;
import jdk.internal.org.objectweb.asm.tree.LineNumberNode;
import jdk.internal.org.objectweb.asm.tree.MethodInsnNode;
import jdk.internal.org.objectweb.asm.tree.MethodNode;

/** Holds the compiled class and its source against what can be read off them of ../shared/LANGUAGE.md. */
public final class RulesTest {
    private static final int DEEPEST = 8;
    private static final Set<String> LIBRARY = Set.of("java/lang/Object.<init>", "java/lang/Long.bitCount",
        "java/lang/Integer.bitCount", "java/lang/Math.abs", "java/lang/Math.min", "java/lang/Math.max",
        "java/lang/System.arraycopy", "java/util/Arrays.fill");
    private static final Set<String> MADE_AT_WORK = Set.of("HeardPlaces$Thing", "HeardPlaces$Measure");

    private static int wrong = 0;
    private static final Map<String, Set<String>> calls = new HashMap<>();

    private static void must(boolean holds, String what) {
        if (!holds) {
            wrong++;
            System.out.println("against the rules: " + what);
        }
    }

    public static void main(String[] arguments) throws Exception {
        checkFace();
        checkSource();
        Class<?>[] inner = HeardPlaces.class.getDeclaredClasses();
        must(inner.length + 1 <= 12, "the file has " + (inner.length + 1) + " classes");
        Set<String> facing = new HashSet<>();
        for (java.lang.reflect.Method m : HeardPlaces.class.getDeclaredMethods()) {
            if (Modifier.isPublic(m.getModifiers())) {
                facing.add(m.getName());
            }
        }
        checkClass(HeardPlaces.class, facing);
        for (Class<?> c : inner) {
            must(Modifier.isStatic(c.getModifiers()) && !Modifier.isPublic(c.getModifiers()), c + " is static and hidden");
            checkClass(c, facing);
        }
        checkDepth();
        System.out.println(wrong == 0 ? "the rules are kept" : wrong + " times against the rules");
        System.exit(wrong == 0 ? 0 : 1);
    }

    private static void checkFace() throws Exception {
        String text = Files.readString(Path.of("../shared/DOC.md"));
        int from = text.indexOf("public final class HeardPlaces {");
        String face = text.substring(from, text.indexOf("```", from));
        Set<String> due = new TreeSet<>();
        for (String line : face.split("\n")) {
            String s = line.trim();
            if (s.startsWith("public") && s.contains("(")) {
                due.add(s.replaceAll("(\\w+) \\w+([,)])", "$1$2").replace("public ", "").replace(";", "").replace(" ,", ","));
            }
        }
        Set<String> there = new TreeSet<>();
        there.add("HeardPlaces()");
        for (java.lang.reflect.Method m : HeardPlaces.class.getDeclaredMethods()) {
            if (Modifier.isPrivate(m.getModifiers()) || m.isSynthetic()) {
                continue;
            }
            must(Modifier.isPublic(m.getModifiers()) && !Modifier.isStatic(m.getModifiers()), "member " + m);
            StringBuilder s = new StringBuilder(m.getReturnType().getName()).append(' ').append(m.getName()).append('(');
            for (int i = 0; i < m.getParameterCount(); i++) {
                s.append(i > 0 ? ", " : "").append(m.getParameterTypes()[i].getName());
            }
            there.add(s.append(')').toString());
        }
        must(due.equals(there), "the face is " + there + " and should be " + due);
        must(Modifier.isFinal(HeardPlaces.class.getModifiers()), "the class is final");
        must(HeardPlaces.class.getConstructors().length == 1, "one constructor");
        Map<String, Long> constants = new TreeMap<>();
        for (java.lang.reflect.Field f : HeardPlaces.class.getDeclaredFields()) {
            if (!Modifier.isPrivate(f.getModifiers())) {
                must(Modifier.isPublic(f.getModifiers()) && Modifier.isStatic(f.getModifiers()), "field " + f);
                must(f.getType() == (f.getName().equals("LOST") ? long.class : int.class), "type of " + f);
                constants.put(f.getName(), f.getLong(null));
            }
        }
        must(constants.equals(new TreeMap<>(Map.of("UNKNOWN", -1L, "OUTSIDE", -2L, "STATE", -3L, "FULL", -4L,
            "SPENT", -6L, "NONE", -9L, "LOST", Long.MIN_VALUE))), "the constants are " + constants);
    }

    private static void checkSource() throws Exception {
        String source = Files.readString(Path.of("src/main/java/HeardPlaces.java"));
        for (int i = 0; i < source.length(); i++) {
            must(source.charAt(i) > 0 && source.charAt(i) < 128, "sign " + (int) source.charAt(i));
        }
        String bare = source.replaceAll("(?s)/\\*.*?\\*/", "").replaceAll("//[^\n]*", "");
        for (String word : List.of("throw", "throws", "try", "catch", "synchronized", "assert", "package", "native",
            "goto", "yield", "var", "sealed")) {
            must(!bare.matches("(?s).*\\b" + word + "\\b.*"), "the word " + word);
        }
        must(!bare.contains("->") && !bare.contains("::") && !bare.contains("@"), "arrows, references, annotations");
        for (String line : bare.split("\n")) {
            must(!line.startsWith("import") || line.equals("import java.util.Arrays;"), line);
            must(line.length() <= 130, "a long line: " + line);
        }
    }

    private static void checkClass(Class<?> c, Set<String> facing) throws Exception {
        ClassNode node = new ClassNode();
        try (InputStream in = HeardPlaces.class.getResourceAsStream(c.getName() + ".class")) {
            new ClassReader(in).accept(node, 0);
        }
        int fields = 0;
        for (FieldNode f : node.fields) {
            if ((f.access & Opcodes.ACC_STATIC) == 0) {
                fields++;
            } else {
                must((f.access & Opcodes.ACC_FINAL) != 0, "static " + f.name + " of " + node.name);
                must(Set.of("I", "J", "[I", "[J").contains(f.desc), "type of static " + f.name);
            }
        }
        must(fields <= 20, node.name + " has " + fields + " fields");
        for (MethodNode m : node.methods) {
            checkMethod(node, m, facing);
        }
    }

    private static void checkMethod(ClassNode node, MethodNode m, Set<String> facing) {
        String name = node.name + "." + m.name;
        boolean isFace = node.name.equals("HeardPlaces") && (m.access & Opcodes.ACC_PUBLIC) != 0;
        must(isFace || !facing.contains(m.name), name + " bears the name of a public one");
        must(m.tryCatchBlocks.isEmpty(), "catching in " + name);
        must(jdk.internal.org.objectweb.asm.Type.getArgumentTypes(m.desc).length <= 7, "parameters of " + name);
        Set<String> called = calls.computeIfAbsent(name, k -> new TreeSet<>());
        int first = Integer.MAX_VALUE;
        int last = 0;
        for (AbstractInsnNode i : m.instructions) {
            int op = i.getOpcode();
            must(op != Opcodes.ATHROW && op != Opcodes.MONITORENTER && op != Opcodes.INVOKEDYNAMIC
                && op != Opcodes.CHECKCAST && op != Opcodes.INSTANCEOF, "opcode " + op + " in " + name);
            boolean makes = op == Opcodes.NEWARRAY || op == Opcodes.ANEWARRAY || op == Opcodes.MULTIANEWARRAY
                || op == Opcodes.NEW && !MADE_AT_WORK.contains(((jdk.internal.org.objectweb.asm.tree.TypeInsnNode) i).desc);
            must(!makes || m.name.equals("<init>") || m.name.equals("<clinit>"), "something is made in " + name);
            if (i instanceof MethodInsnNode) {
                MethodInsnNode call = (MethodInsnNode) i;
                String to = call.owner + "." + call.name;
                must(call.owner.startsWith("HeardPlaces") || LIBRARY.contains(to), "library: " + to);
                called.add(to);
            }
            if (i instanceof LineNumberNode) {
                first = Math.min(first, ((LineNumberNode) i).line);
                last = Math.max(last, ((LineNumberNode) i).line);
            }
        }
        must(m.name.startsWith("<") || last - first < 60, name + " has " + (last - first) + " lines");
    }

    // The one recursion, place(), has at most 9 levels; its own calls are counted once.
    private static void checkDepth() {
        for (String from : calls.keySet()) {
            List<String> path = longest(from, List.of());
            must(path.size() <= DEEPEST, path.size() + " calls deep: " + path);
        }
    }

    private static final Map<String, List<String>> found = new HashMap<>();

    private static List<String> longest(String from, List<String> open) {
        if (found.containsKey(from)) {
            return found.get(from);
        }
        List<String> best = List.of();
        for (String to : calls.getOrDefault(from, Set.of())) {
            must(!open.contains(to), "recursion by " + to);
            if (!to.equals(from)) {
                List<String> now = new java.util.ArrayList<>(open);
                now.add(from);
                List<String> path = longest(to, now);
                best = path.size() > best.size() ? path : best;
            } else {
                must(from.equals("HeardPlaces$Placings.place"), "recursion of " + from);
            }
        }
        List<String> path = new java.util.ArrayList<>(List.of(from));
        path.addAll(best);
        found.put(from, path);
        return path;
    }
}
