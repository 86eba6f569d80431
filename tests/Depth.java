import java.io.DataInputStream;
import java.io.IOException;
import java.io.InputStream;
import java.util.ArrayList;
import java.util.HashMap;
import java.util.List;
import java.util.Map;
import java.util.TreeMap;

/** LANGUAGE.md, 11: calls that are no recursion go at most eight deep, by what the compiled classes call. */
public final class Depth {
    private static final int DEPTH_MOST = 8;
    private static final Map<String, List<String>> callees = new TreeMap<>();
    private static final Map<String, Integer> depths = new HashMap<>();

    public static void main(String[] args) throws IOException {
        List<Class<?>> classes = new ArrayList<>(List.of(LastLoaf.class.getDeclaredClasses()));
        classes.add(LastLoaf.class);
        for (Class<?> c : classes) {
            try (InputStream in = LastLoaf.class.getResourceAsStream(c.getName() + ".class")) {
                read(new DataInputStream(in));
            }
        }
        int wrong = 0;
        int deepest = 0;
        for (String method : callees.keySet()) {
            int depth = depth(method, new ArrayList<>());
            deepest = Math.max(deepest, depth);
            if (depth > DEPTH_MOST) {
                wrong++;
                System.out.println(method + " goes " + depth + " deep");
            }
        }
        System.out.println(callees.size() + " methods, at most " + deepest + " deep");
        if (wrong != 0 || callees.size() < 64) System.exit(1);
    }

    /** A method that calls itself counts once; rings of several are no recursion that the program has. */
    private static int depth(String method, List<String> open) {
        if (depths.containsKey(method)) return depths.get(method);
        open.add(method);
        int most = 0;
        for (String callee : callees.get(method)) {
            if (callee.equals(method) || !callees.containsKey(callee)) continue;
            if (open.contains(callee)) throw new IllegalStateException("a ring of calls: " + open + " " + callee);
            most = Math.max(most, depth(callee, open));
        }
        open.remove(method);
        depths.put(method, most + 1);
        return most + 1;
    }

    private static void read(DataInputStream in) throws IOException {
        in.skipBytes(8);
        int size = in.readUnsignedShort();
        Object[] pool = new Object[size];
        for (int i = 1; i < size; i++) {
            int tag = in.readUnsignedByte();
            switch (tag) {
                case 1: pool[i] = in.readUTF(); break;
                case 5: case 6: in.skipBytes(8); i++; break;
                case 7: case 8: case 16: case 19: case 20: pool[i] = new int[] {tag, in.readUnsignedShort()}; break;
                case 15: in.skipBytes(3); break;
                case 9: case 10: case 11: case 12: case 17: case 18: pool[i] = new int[] {tag, in.readUnsignedShort(), in.readUnsignedShort()}; break;
                default: in.skipBytes(4); break;
            }
        }
        in.skipBytes(2);
        String name = className(pool, in.readUnsignedShort());
        in.skipBytes(2);
        in.skipBytes(2 * in.readUnsignedShort());
        members(in, pool, null);
        members(in, pool, name);
    }

    private static void members(DataInputStream in, Object[] pool, String owner) throws IOException {
        for (int left = in.readUnsignedShort(); left > 0; left--) {
            in.skipBytes(2);
            String method = owner + "." + pool[in.readUnsignedShort()] + pool[in.readUnsignedShort()];
            List<String> called = new ArrayList<>();
            for (int attributes = in.readUnsignedShort(); attributes > 0; attributes--) {
                Object kind = pool[in.readUnsignedShort()];
                byte[] bytes = new byte[in.readInt()];
                in.readFully(bytes);
                if ("Code".equals(kind)) calls(bytes, pool, called);
            }
            if (owner != null) callees.put(method, called);
        }
    }

    private static void calls(byte[] attribute, Object[] pool, List<String> called) {
        int length = number(attribute, 4, 4);
        byte[] code = java.util.Arrays.copyOfRange(attribute, 8, 8 + length);
        for (int at = 0; at < length; at += lengthAt(code, at)) {
            int opcode = code[at] & 255;
            if (opcode < 182 || opcode > 185) continue;
            int[] reference = (int[]) pool[number(code, at + 1, 2)];
            int[] signature = (int[]) pool[reference[2]];
            called.add(className(pool, reference[1]) + "." + pool[signature[1]] + pool[signature[2]]);
        }
    }

    private static int lengthAt(byte[] code, int at) {
        int opcode = code[at] & 255;
        int operands = (at + 4) / 4 * 4;
        if (opcode == 170) return operands + 12 + 4 * (number(code, operands + 8, 4) - number(code, operands + 4, 4) + 1) - at;
        if (opcode == 171) return operands + 8 + 8 * number(code, operands + 4, 4) - at;
        if (opcode == 196) return (code[at + 1] & 255) == 132 ? 6 : 4;
        if (opcode == 185 || opcode == 186 || opcode == 200 || opcode == 201) return 5;
        if (opcode == 197) return 4;
        if (opcode == 16 || opcode == 18 || opcode == 188 || opcode >= 21 && opcode <= 25 || opcode >= 54 && opcode <= 58 || opcode == 169) return 2;
        boolean isShort = opcode == 17 || opcode == 19 || opcode == 20 || opcode == 132 || opcode >= 153 && opcode <= 168
                || opcode >= 178 && opcode <= 184 || opcode == 187 || opcode == 189 || opcode == 192 || opcode == 193 || opcode == 198 || opcode == 199;
        return isShort ? 3 : 1;
    }

    private static int number(byte[] bytes, int at, int length) {
        int number = 0;
        for (int i = 0; i < length; i++) number = number << 8 | bytes[at + i] & 255;
        return number;
    }

    private static String className(Object[] pool, int at) { return (String) pool[((int[]) pool[at])[1]]; }
}
