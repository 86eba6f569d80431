import java.io.DataInputStream;
import java.io.IOException;
import java.io.InputStream;
import java.lang.reflect.Array;
import java.lang.reflect.Field;
import java.lang.reflect.Modifier;
import java.util.ArrayDeque;
import java.util.ArrayList;
import java.util.Arrays;
import java.util.Collections;
import java.util.Deque;
import java.util.HashMap;
import java.util.IdentityHashMap;
import java.util.List;
import java.util.Map;
import java.util.Set;
import java.util.TreeMap;

/** What the compiled classes show of LANGUAGE.md: rules 4, 6, 8, 11 and 12. */
public final class Compiled {
    private static final int DEPTH_MOST = 8;
    private static final int OBJECTS_MOST = 400;
    private static final int CELLS_MOST = 12000;
    private static final Set<String> EXCEPTIONS = Set.of("java/lang/IllegalStateException", "java/lang/IllegalArgumentException",
            "java/lang/IndexOutOfBoundsException", "java/lang/UnsupportedOperationException", "java/util/NoSuchElementException");
    private static final Set<String> LIBRARY = Set.of("java/lang/String.length", "java/lang/String.charAt", "java/lang/System.arraycopy",
            "java/util/Arrays.fill", "java/lang/Integer.bitCount", "java/lang/Math.min", "java/lang/Math.max", "java/lang/Math.floorMod");
    /** The one recursion, of which each level is a week. */
    private static final String RECURSION = "LastLoaf$Turns.search(I)V";

    private static final Map<String, List<String>> callees = new TreeMap<>();
    private static final Map<String, Integer> depths = new HashMap<>();
    private static int wrong = 0;

    public static void main(String[] args) throws Exception {
        List<Class<?>> classes = new ArrayList<>(List.of(LastLoaf.class.getDeclaredClasses()));
        classes.add(LastLoaf.class);
        for (Class<?> c : classes) {
            try (InputStream in = LastLoaf.class.getResourceAsStream(c.getName() + ".class")) {
                read(new DataInputStream(in));
            }
        }
        if (callees.size() < 64) fail("only " + callees.size() + " methods were read");
        int deepest = depths();
        library();
        int cells = room();
        System.out.println(callees.size() + " methods, at most " + deepest + " deep, " + cells + " cells an object, " + wrong + " not as due");
        if (wrong != 0) System.exit(1);
    }

    private static void fail(String what) {
        wrong++;
        System.out.println(what);
    }

    // ---- rules 8 and 11: how deep calls go

    private static int depths() {
        int deepest = 0;
        for (String method : callees.keySet()) {
            int depth = depth(method, new ArrayList<>());
            deepest = Math.max(deepest, depth);
            if (depth > DEPTH_MOST) fail(method + " goes " + depth + " deep");
        }
        return deepest;
    }

    /** A method that calls itself counts once; rings of several are no recursion that the program has. */
    private static int depth(String method, List<String> open) {
        if (depths.containsKey(method)) return depths.get(method);
        open.add(method);
        int most = 0;
        for (String callee : callees.get(method)) {
            if (!callees.containsKey(callee)) continue;
            if (callee.equals(method)) {
                if (!method.equals(RECURSION)) fail(method + " calls itself");
                continue;
            }
            if (open.contains(callee)) throw new IllegalStateException("a ring of calls: " + open + " " + callee);
            most = Math.max(most, depth(callee, open));
        }
        open.remove(method);
        depths.put(method, most + 1);
        return most + 1;
    }

    // ---- rule 4: what of the library is called

    private static void library() {
        for (String method : callees.keySet()) {
            for (String callee : callees.get(method)) {
                String name = callee.substring(0, callee.indexOf('('));
                boolean makes = name.endsWith(".<init>");
                String owner = makes ? name.substring(0, name.length() - 7) : name;
                boolean isObject = makes && owner.equals("java/lang/Object");
                if (!callees.containsKey(callee) && !isObject && !(makes ? EXCEPTIONS : LIBRARY).contains(owner)) fail(method + " calls " + callee);
            }
        }
    }

    // ---- rule 12: what a run makes

    /** One object holds little enough that a run may have hundreds of them, and calls do not make it greater. */
    private static int room() throws Exception {
        LastLoaf x = new LastLoaf();
        int[] ahead = sizeOf(x);
        for (int i = 0; i < 40; i++) {
            x.feed(0x666c6f75, 0x72203700, 0, 0, 0);
            x.end(7);
            if (i < 12) x.village();
            else x.end(0);
            x.law();
            x.weeks(60);
            x.image();
            x.rota(5, -1);
            x.ballots();
            x.undo();
        }
        int[] behind = sizeOf(x);
        if (!Arrays.equals(ahead, behind)) fail("an object of " + Arrays.toString(ahead) + " became one of " + Arrays.toString(behind));
        if (ahead[0] > OBJECTS_MOST || ahead[1] > CELLS_MOST) fail("an object has " + ahead[0] + " parts of " + ahead[1] + " cells");
        return ahead[1];
    }

    /** How many objects and arrays it is, and their fields and elements. */
    private static int[] sizeOf(Object root) throws IllegalAccessException {
        Set<Object> seen = Collections.newSetFromMap(new IdentityHashMap<>());
        Deque<Object> open = new ArrayDeque<>(List.of(root));
        seen.add(root);
        int cells = 0;
        while (!open.isEmpty()) {
            Object one = open.poll();
            List<Object> parts = new ArrayList<>();
            if (one.getClass().isArray()) {
                cells += Array.getLength(one);
                if (one instanceof Object[] row) parts.addAll(Arrays.asList(row));
            } else {
                for (Field f : one.getClass().getDeclaredFields()) {
                    if (Modifier.isStatic(f.getModifiers())) continue;
                    cells++;
                    f.setAccessible(true);
                    if (!f.getType().isPrimitive()) parts.add(f.get(one));
                }
            }
            for (Object part : parts) if (part != null && seen.add(part)) open.add(part);
        }
        return new int[] {seen.size(), cells};
    }

    // ---- how a class file is read

    private static void read(DataInputStream in) throws IOException {
        in.skipBytes(8);
        int size = in.readUnsignedShort();
        Object[] pool = new Object[size];
        for (int i = 1; i < size; i++) {
            int tag = in.readUnsignedByte();
            switch (tag) {
                case 1: pool[i] = in.readUTF(); break;
                case 5: case 6: in.skipBytes(8); i++; break;
                case 7: case 8: case 16: case 19: case 20: pool[i] = new int[] {tag, in.readUnsignedShort()}; break;
                case 15: in.skipBytes(3); break;
                case 9: case 10: case 11: case 12: case 17: case 18: pool[i] = new int[] {tag, in.readUnsignedShort(), in.readUnsignedShort()}; break;
                default: in.skipBytes(4); break;
            }
        }
        in.skipBytes(2);
        String name = className(pool, in.readUnsignedShort());
        in.skipBytes(2);
        in.skipBytes(2 * in.readUnsignedShort());
        members(in, pool, null);
        members(in, pool, name);
    }

    private static void members(DataInputStream in, Object[] pool, String owner) throws IOException {
        for (int left = in.readUnsignedShort(); left > 0; left--) {
            in.skipBytes(2);
            String method = owner + "." + pool[in.readUnsignedShort()] + pool[in.readUnsignedShort()];
            List<String> called = new ArrayList<>();
            for (int attributes = in.readUnsignedShort(); attributes > 0; attributes--) {
                Object kind = pool[in.readUnsignedShort()];
                byte[] bytes = new byte[in.readInt()];
                in.readFully(bytes);
                if ("Code".equals(kind)) code(method, bytes, pool, called);
            }
            if (owner != null) callees.put(method, called);
        }
    }

    private static void code(String method, byte[] attribute, Object[] pool, List<String> called) {
        int length = number(attribute, 4, 4);
        byte[] code = Arrays.copyOfRange(attribute, 8, 8 + length);
        boolean isMaker = method.contains(".<init>");
        if (method.contains(".<clinit>")) fail(method + " is run ahead of all");
        if (number(attribute, 8 + length, 2) != 0) fail(method + " catches");
        for (int at = 0; at < length; at += lengthAt(code, at)) {
            int opcode = code[at] & 255;
            if (opcode >= 182 && opcode <= 185) {
                int[] reference = (int[]) pool[number(code, at + 1, 2)];
                int[] signature = (int[]) pool[reference[2]];
                called.add(className(pool, reference[1]) + "." + pool[signature[1]] + pool[signature[2]]);
            }
            if (opcode == 186) fail(method + " calls what is found only when it runs");
            if (opcode == 191 && isMaker) fail(method + " throws");
            boolean isException = opcode == 187 && EXCEPTIONS.contains(className(pool, number(code, at + 1, 2)));
            boolean makes = opcode >= 187 && opcode <= 189 || opcode == 197;
            if (makes && isMaker == isException) fail(method + " makes something");
        }
    }

    private static int lengthAt(byte[] code, int at) {
        int opcode = code[at] & 255;
        int operands = (at + 4) / 4 * 4;
        if (opcode == 170) return operands + 12 + 4 * (number(code, operands + 8, 4) - number(code, operands + 4, 4) + 1) - at;
        if (opcode == 171) return operands + 8 + 8 * number(code, operands + 4, 4) - at;
        if (opcode == 196) return (code[at + 1] & 255) == 132 ? 6 : 4;
        if (opcode == 185 || opcode == 186 || opcode == 200 || opcode == 201) return 5;
        if (opcode == 197) return 4;
        if (opcode == 16 || opcode == 18 || opcode == 188 || opcode >= 21 && opcode <= 25 || opcode >= 54 && opcode <= 58 || opcode == 169) return 2;
        boolean isShort = opcode == 17 || opcode == 19 || opcode == 20 || opcode == 132 || opcode >= 153 && opcode <= 168
                || opcode >= 178 && opcode <= 184 || opcode == 187 || opcode == 189 || opcode == 192 || opcode == 193 || opcode == 198 || opcode == 199;
        return isShort ? 3 : 1;
    }

    private static int number(byte[] bytes, int at, int length) {
        int number = 0;
        for (int i = 0; i < length; i++) number = number << 8 | bytes[at + i] & 255;
        return number;
    }

    private static String className(Object[] pool, int at) { return (String) pool[((int[]) pool[at])[1]]; }
}
