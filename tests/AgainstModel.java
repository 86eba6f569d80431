import java.lang.reflect.InvocationTargetException;
import java.lang.reflect.Method;
import java.lang.reflect.Modifier;
import java.nio.charset.StandardCharsets;
import java.util.ArrayList;
import java.util.Arrays;
import java.util.Comparator;
import java.util.List;
import java.util.Random;

/** Runs of random calls, each answered by the program as the model answers it; arguments: runs, first seed. */
public final class AgainstModel {
    private static final List<Method> OWN = new ArrayList<>();
    private static final List<Method> DUE = new ArrayList<>();
    private static int calls = 0;

    private final Random random;
    private final LastLoaf own = new LastLoaf();
    private final Model due = new Model();
    private final List<String> told = new ArrayList<>();
    private boolean wrong = false;

    private AgainstModel(long seed) { random = new Random(seed); }

    public static void main(String[] args) throws Exception {
        int runs = args.length > 0 ? Integer.parseInt(args[0]) : 1500;
        long first = args.length > 1 ? Long.parseLong(args[1]) : 1;
        for (Method m : LastLoaf.class.getDeclaredMethods()) if (Modifier.isPublic(m.getModifiers())) OWN.add(m);
        OWN.sort(Comparator.comparing(Method::getName));
        for (Method m : OWN) DUE.add(Model.class.getDeclaredMethod(m.getName(), m.getParameterTypes()));
        int wrongRuns = 0;
        for (long seed = first; seed < first + runs; seed++) {
            AgainstModel run = new AgainstModel(seed);
            run.play();
            if (run.wrong && wrongRuns++ < 3) {
                System.out.println("run of seed " + seed + ":");
                for (String s : run.told.subList(Math.max(0, run.told.size() - 60), run.told.size())) System.out.println("  " + s);
            }
        }
        System.out.println(runs + " runs, " + calls + " calls, " + wrongRuns + " runs not as due");
        if (wrongRuns != 0) System.exit(1);
    }

    private void play() throws Exception {
        if (random.nextInt(20) != 0) village();
        if (random.nextInt(3) != 0) law();
        if (random.nextInt(25) == 0) far();
        int length = 20 + random.nextInt(60);
        for (int i = 0; i < length && !wrong; i++) {
            int dice = random.nextInt(40);
            if (dice == 0) village();
            else if (dice == 1) law();
            else if (dice < 5) ballots();
            else if (dice < 10) call("weeks", 1 + (random.nextInt(4) == 0 ? random.nextInt(60) : random.nextInt(4)));
            else if (dice < 28) hard();
            else any();
            if (!wrong && dice < 12) compareState();
        }
        if (!wrong) compareState();
    }

    /** To where WEEK, FLOUR, HAD, RUN and THE LOG are as great as can be. */
    private void far() throws Exception {
        text("week 99" + random.nextInt(10) + ";flour 999;grist winter " + random.nextInt(3), "village");
        for (int i = random.nextInt(12); i > 0; i--) call("bring", 999);
        for (int i = 140 + random.nextInt(12); i > 0; i--) call("weeks", 60);
        compareState();
    }

    private void any() throws Exception {
        int m = random.nextInt(OWN.size());
        Class<?>[] types = OWN.get(m).getParameterTypes();
        Object[] args = new Object[types.length];
        for (int i = 0; i < args.length; i++) args[i] = types[i] == boolean.class ? (Object) random.nextBoolean() : (Object) number();
        if (OWN.get(m).getName().equals("ahead") && random.nextInt(4) != 0) args[1] = random.nextInt(61);
        call(m, args);
    }

    /** The calls that are hardest to answer, with numbers that can be. */
    private void hard() throws Exception {
        int person = random.nextInt(Math.max(1, due.count(0)));
        int n = random.nextInt(3) == 0 ? random.nextInt(61) : random.nextInt(9);
        switch (random.nextInt(14)) {
            case 0: call("winner", random.nextInt(6)); break;
            case 1: call("hungry", random.nextInt(6), n); break;
            case 2: call("kindest", n); break;
            case 3: call("next", n); break;
            case 4: call("woo", person); break;
            case 5: call("orders"); call("order", person, random.nextInt(6)); break;
            case 6: int turns = random.nextInt(due.count(0) > 4 ? 4 : 6); for (int k = -1; k < turns; k++) call("rota", turns, k); break;
            case 7: call("lasts"); break;
            case 8: call("mill", Math.max(1, n)); break;
            case 9: call("starves", false); call("starves", true); break;
            case 10: call("couples", random.nextInt(due.count(0) + 1) - 1); call("camps"); break;
            case 11: for (int k = -1; k < 6; k++) call("table", k); break;
            case 12: call("span", n, random.nextBoolean()); call("trial", n, random.nextBoolean()); break;
            default: call("swings", person); call("smallest"); call("kingmaker"); break;
        }
    }

    private int number() {
        switch (random.nextInt(12)) {
            case 0: return -1;
            case 1: return 6 + random.nextInt(60);
            case 2: return random.nextInt(1100);
            case 3: return random.nextInt(8) == 0 ? random.nextInt() : random.nextInt(15) - 3;
            default: return random.nextInt(6);
        }
    }

    private void call(String name, Object... args) throws Exception {
        for (int m = 0; m < OWN.size(); m++) if (OWN.get(m).getName().equals(name)) { call(m, args); return; }
        throw new IllegalStateException(name);
    }

    private void call(int m, Object... args) throws Exception {
        calls++;
        Object a = answer(OWN.get(m), own, args);
        Object b = answer(DUE.get(m), due, args);
        told.add(OWN.get(m).getName() + Arrays.toString(args) + " = " + a);
        if (a == null ? b != null : !a.equals(b)) {
            wrong = true;
            told.add("   due is " + b);
        }
    }

    private static Object answer(Method m, Object of, Object[] args) throws Exception {
        try {
            return m.invoke(of, args);
        } catch (InvocationTargetException e) {
            Throwable t = e.getCause();
            String name = t.getClass().getName();
            // What the machine throws is wrong, whatever is due.
            boolean machine = t.getClass() != IndexOutOfBoundsException.class && t.getStackTrace().length > 0
                    && t.getStackTrace()[0].getClassName().startsWith("java.");
            return machine ? "machine " + t : name;
        }
    }

    private void compareState() throws Exception {
        for (int what = 0; what <= 13; what++) call("count", what);
        for (int p = 0; p < due.count(0); p++) {
            for (int what = 0; what <= 6; what++) call("person", p, what);
            for (int q = 0; q < due.count(0); q++) { if (p != q) call("likes", p, q); call("favour", p, q); }
        }
        for (int s = 0; s < 4; s++) call("grist", s);
        for (int ago = 0; ago < due.count(11); ago++) for (int what = 0; what < 4; what++) call("log", ago, what);
        call("fault");
        int seed = due.seed(0);
        due.seed(seed);
        call("seed", seed);
        told.subList(Math.max(0, told.size() - 400), told.size()).removeIf(s -> !wrong);
    }

    private void text(String s, String reader) throws Exception {
        if (random.nextInt(5) == 0) s = spoil(s);
        call("end", 0);
        byte[] bytes = s.getBytes(StandardCharsets.ISO_8859_1);
        int length = Math.min(400, bytes.length);
        byte[] padded = Arrays.copyOf(bytes, 400);
        for (int i = 0; i < length; i += 20) {
            int[] n = new int[5];
            for (int j = 0; j < 20; j++) n[j / 4] = n[j / 4] << 8 | padded[i + j] & 255;
            call("feed", n[0], n[1], n[2], n[3], n[4]);
        }
        call("end", length);
        told.add("text: " + s);
        call(reader);
        call("fault");
    }

    private String spoil(String s) {
        StringBuilder b = new StringBuilder(s);
        for (int n = 1 + random.nextInt(2); n > 0 && b.length() > 0; n--) {
            int i = random.nextInt(b.length());
            switch (random.nextInt(4)) {
                case 0: b.deleteCharAt(i); break;
                case 1: b.insert(i, pick(" ", ";", "0", "9", "<", "+", "(", ")", " not ", " and ", " or ", "x", "person", " likes ", "A", "-")); break;
                case 2: b.setCharAt(i, (char) random.nextInt(256)); break;
                default: b.setLength(i); break;
            }
        }
        return b.toString();
    }

    private String pick(String... of) { return of[random.nextInt(of.length)]; }
    private String blank() { return pick(" ", " ", " ", "  "); }
    private String maybe() { return pick("", "", " "); }

    private void village() throws Exception {
        StringBuilder b = new StringBuilder(maybe());
        int there = due.count(0);
        int people = there == 0 || random.nextInt(3) == 0 ? random.nextInt(7) : 0;
        String between = "";
        for (int i = 0; i < people; i++) {
            b.append(between).append("person").append(blank()).append("hunger ").append(random.nextInt(10));
            if (random.nextBoolean()) b.append(" party ").append(pick("crust", "crumb"));
            if (random.nextInt(3) == 0) b.append(" skin ").append(random.nextInt(10));
            if (random.nextInt(3) != 0) b.append(maybe()).append("stands");
            between = maybe() + ";" + maybe();
        }
        there += people;
        for (int i = random.nextInt(9); i > 0; i--) {
            b.append(between).append(villageLine(there));
            between = maybe() + ";" + maybe();
        }
        text(b.append(maybe()).toString(), "village");
    }

    private String villageLine(int there) {
        switch (random.nextInt(9)) {
            case 0: return "flour " + (random.nextInt(4) == 0 ? random.nextInt(1002) : random.nextInt(12));
            case 1: return "grist " + pick("spring", "summer", "autumn", "winter") + " " + random.nextInt(random.nextInt(5) == 0 ? 102 : 7);
            case 2: return "way " + random.nextInt(6);
            case 3: return "speech" + maybe() + random.nextInt(102);
            case 4: return "week " + random.nextInt(1002);
            default:
                int p = random.nextInt(Math.max(1, there));
                int q = (p + 1 + random.nextInt(Math.max(1, there - 1))) % Math.max(1, there);
                return "likes " + p + " " + q + blank() + random.nextInt(10);
        }
    }

    private void law() throws Exception {
        StringBuilder b = new StringBuilder(maybe());
        int lines = random.nextInt(6) == 0 ? random.nextInt(14) : random.nextInt(5);
        for (int i = 0; i < lines; i++) {
            if (i > 0) b.append(maybe()).append(";").append(maybe());
            String kind = pick("sway ", "sway ", "spite ", "abstain");
            b.append(kind);
            if (!kind.equals("abstain")) b.append(random.nextInt(random.nextInt(10) == 0 ? 23 : 10));
            if (random.nextInt(5) != 0 || kind.equals("abstain")) b.append(" if ").append(either(0));
        }
        text(b.append(maybe()).toString(), "law");
    }

    private String either(int deep) {
        String s = all(deep);
        while (random.nextInt(4) == 0) s += blank() + "or " + all(deep);
        return s;
    }

    private String all(int deep) {
        String s = atom(deep);
        while (random.nextInt(4) == 0) s += " and " + atom(deep);
        return s;
    }

    private String atom(int deep) {
        int most = random.nextInt(30) == 0 ? 7 : 6;
        switch (random.nextInt(8)) {
            case 0: case 1: if (deep < most) return "not " + atom(deep + 1); return "same";
            case 2: case 3: if (deep < most) return "(" + maybe() + either(deep + 1) + maybe() + ")"; return "standing";
            case 4: return pick("same", "standing");
            default: return sum() + maybe() + pick("<", ">") + maybe() + sum();
        }
    }

    private String sum() {
        String s = part();
        while (random.nextInt(4) == 0) s += maybe() + "+" + maybe() + part();
        return s;
    }

    private String part() {
        return random.nextInt(3) == 0 ? "" + random.nextInt(random.nextInt(9) == 0 ? 1003 : 12)
                : pick("voter", "other", "likes", "hunger", "had", "run", "skin");
    }

    private void ballots() throws Exception {
        int rows = random.nextInt(4);
        int[] n = new int[5];
        int length = random.nextInt(12) == 0 ? random.nextInt(9) : 2 * rows;
        for (int j = 0; j < 20; j++) {
            int value = j % 2 == 0 ? random.nextInt(Math.max(1, due.count(0))) : random.nextInt(random.nextInt(6) == 0 ? 8 : 3);
            if (j % 2 == 0 && random.nextInt(10) != 0 && due.count(8) != 0) {
                while ((due.count(8) >> value & 1) == 0) value = random.nextInt(6);
            }
            n[j / 4] = n[j / 4] << 8 | value;
        }
        call("end", 0);
        call("feed", n[0], n[1], n[2], n[3], n[4]);
        call("end", length);
        String what = pick("ballots", "ask", "sure");
        if (what.equals("sure")) call(what, random.nextInt(7));
        else call(what);
    }
}
