import java.lang.reflect.InvocationTargetException;
import java.lang.reflect.Method;
import java.nio.charset.StandardCharsets;
import java.nio.file.Files;
import java.nio.file.Path;
import java.util.NoSuchElementException;
import java.util.Set;
import java.util.TreeSet;
import java.util.function.Supplier;

/**
 * For each sentence of the document that names a boundary case a test of its own. A sentence is told with its promise
 * and its words, which must stand in the document; the checks behind it would fail if it were broken.
 */
public final class Boundaries {
    private static final int NONE = -1;
    private static final int LEAST = Integer.MIN_VALUE;
    private static final int MOST = Integer.MAX_VALUE;
    private static final Class<?> PLACE = IndexOutOfBoundsException.class;
    private static final Class<?> ARGUMENT = IllegalArgumentException.class;
    private static final Class<?> STATE = IllegalStateException.class;
    private static final Class<?> ELEMENT = NoSuchElementException.class;
    private static final Class<?> UNSUPPORTED = UnsupportedOperationException.class;

    private static final String NO_GRIST = ";grist spring 0;grist summer 0;grist autumn 0;grist winter 0";
    private static final String ONE = "person hunger 1";
    private static final String STANDS = "person hunger 1 stands";
    /** One who stands and one who does not, of hunger 9, for whom there is no flour. */
    private static final String STARVING = "person hunger 9 stands;person hunger 9;person hunger 0 skin 2 stands" + NO_GRIST;

    private static String doc = "";
    private static int promise = 0;
    private static String words = "";
    private static int sentences = 0;
    private static int checks = 0;
    private static int wrong = 0;
    private static final Set<Integer> seen = new TreeSet<>();

    public static void main(String[] args) throws Exception {
        doc = Files.readString(Path.of("../shared/DOC.md")).replaceAll("\\s+", " ");
        peopleAtFirst();
        peopleAtMost();
        villageTexts();
        villageNumbers();
        villageOrder();
        lawLines();
        lawNumbers();
        lawMeaning();
        signs();
        depth();
        wrongBytes();
        wrongTexts();
        voting();
        ways();
        weekFlour();
        weekLoaf();
        weekBench();
        weekSpeech();
        draws();
        lookingAhead();
        theLog();
        polls();
        needs();
        orders();
        turns();
        flourLasts();
        ballotCounts();
        ballotTapes();
        houses();
        couplesAndCamps();
        table();
        slices();
        passingOn();
        rests();
        odds();
        namedOnes();
        trials();
        undone();
        image();
        tape();
        answersOfPersons();
        actEdges();
        numbersRefused();
        peopleRefused();
        firstTold();
        refusedTapes();
        questions();
        nobody();
        counts();
        for (int p = 1; p <= 64; p++) if (!seen.contains(p)) fail("promise " + p + " has no sentence here");
        System.out.println(sentences + " sentences, " + checks + " checks, " + wrong + " not as due");
        if (wrong != 0) System.exit(1);
    }

    // ---- how a sentence is told and checked

    private static void sentence(int of, String told) {
        promise = of;
        words = told;
        sentences++;
        seen.add(of);
        if (!doc.contains(told.replaceAll("\\s+", " "))) fail("the document does not say it");
    }

    private static void fail(String what) {
        wrong++;
        System.out.println("promise " + promise + " '" + words + "': " + what);
    }

    /** The call with these numbers (a boolean is 1 or 0) answers just that. */
    private static void due(LastLoaf x, long want, String name, int... args) {
        checks++;
        Object got = answer(x, name, args);
        if (!got.equals(want)) fail(text(name, args) + " answered " + got + ", due is " + want);
    }

    private static void same(Object got, Object want, String what) {
        checks++;
        if (!got.equals(want)) fail(what + ": " + got + ", due is " + want);
    }

    /** The call throws just this, and the object behind it is to all further calls as one that was not asked. */
    private static void refused(Supplier<LastLoaf> make, Class<?> want, String name, int... args) {
        refused(make, "flour 77".getBytes(StandardCharsets.ISO_8859_1), false, want, name, args);
    }

    private static void refused(Supplier<LastLoaf> make, byte[] tape, boolean used, Class<?> want, String name, int... args) {
        LastLoaf x = ready(make, tape);
        LastLoaf twin = ready(make, tape);
        checks++;
        Object got = answer(x, name, args);
        if (!got.equals(want)) fail(text(name, args) + " answered " + got + ", due is " + want);
        if (used) {
            due(x, 0, "end", 1);
            twin.end(0);
        }
        boolean isText = name.equals("village") || name.equals("law");
        same(history(x, !isText), history(twin, !isText), text(name, args) + " changed something");
    }

    private static LastLoaf ready(Supplier<LastLoaf> make, byte[] tape) {
        LastLoaf x = make.get();
        x.bring(3);
        x.image();
        x.seed(99);
        x.bring(5);
        tell(x, "way 9");
        answer(x, "village");
        tell(x, tape);
        return x;
    }

    /** All that can be asked of an object, of its tape, of what it can undo and go back to. */
    private static String history(LastLoaf x, boolean fault) {
        StringBuilder b = new StringBuilder();
        b.append(fault ? x.fault() : 0).append(' ').append(state(x)).append('\n');
        b.append(answer(x, "trial", 3, 1)).append(' ');
        for (int i = 0; i < 14; i++) b.append(answer(x, "undo")).append(' ').append(state(x)).append('\n');
        b.append(answer(x, "back")).append(' ').append(state(x)).append('\n');
        b.append(answer(x, "village")).append(x.fault()).append(' ').append(state(x)).append('\n');
        return b.toString();
    }

    private static String state(LastLoaf x) {
        StringBuilder b = new StringBuilder();
        for (int what = 0; what <= 12; what++) b.append(x.count(what)).append(' ');
        for (int p = 0; p < x.count(0); p++) {
            for (int what = 0; what <= 13; what++) b.append(x.person(p, what)).append(' ');
            for (int q = 0; q < x.count(0); q++) b.append(x.favour(p, q)).append(p == q ? 9 : x.likes(p, q)).append(' ');
        }
        for (int s = 0; s < 4; s++) b.append(x.grist(s)).append(' ');
        for (int ago = 0; ago < x.count(11); ago++) for (int what = 0; what < 4; what++) b.append(x.log(ago, what)).append(' ');
        int seed = x.seed(0);
        x.seed(seed);
        return b.append(seed).toString();
    }

    private static Object answer(Object x, String name, int... args) {
        for (Method m : x.getClass().getDeclaredMethods()) {
            if (!m.getName().equals(name) || m.getParameterCount() != args.length) continue;
            Object[] given = new Object[args.length];
            for (int i = 0; i < args.length; i++) given[i] = m.getParameterTypes()[i] == boolean.class ? (Object) (args[i] != 0) : (Object) args[i];
            try {
                Object got = m.invoke(x, given);
                if (got instanceof Boolean) return (Boolean) got ? 1L : 0L;
                return got == null ? 0L : ((Integer) got).longValue();
            } catch (InvocationTargetException e) {
                return e.getCause().getClass();
            } catch (IllegalAccessException e) {
                throw new IllegalStateException(e);
            }
        }
        throw new IllegalStateException(name);
    }

    private static String text(String name, int... args) {
        StringBuilder b = new StringBuilder(name).append('(');
        for (int i = 0; i < args.length; i++) b.append(i > 0 ? ", " : "").append(args[i]);
        return b.append(')').toString();
    }

    private static void tell(LastLoaf x, String text) { tell(x, text.getBytes(StandardCharsets.ISO_8859_1)); }

    private static void tell(LastLoaf x, byte[] bytes) {
        x.end(0);
        for (int i = 0; i < bytes.length; i += 20) {
            int[] n = new int[5];
            for (int j = 0; j < 20; j++) n[j / 4] = n[j / 4] << 8 | (i + j < bytes.length ? bytes[i + j] & 255 : 0);
            if (x.feed(n[0], n[1], n[2], n[3], n[4]) == NONE) throw new IllegalStateException("a text too long");
        }
        x.end(bytes.length);
    }

    private static LastLoaf of(String village) {
        LastLoaf x = new LastLoaf();
        tell(x, village);
        x.village();
        return x;
    }

    private static LastLoaf of(String village, String law) { return withLaw(of(village), law); }

    private static LastLoaf withLaw(LastLoaf x, String law) {
        tell(x, law);
        x.law();
        return x;
    }

    /** The same line again and again. */
    private static String times(int n, String line) {
        StringBuilder b = new StringBuilder();
        for (int i = 0; i < n; i++) b.append(i > 0 ? ";" : "").append(line);
        return b.toString();
    }

    private static LastLoaf baked(LastLoaf x, int weeks) {
        for (int left = weeks; left > 0; left -= 60) x.weeks(Math.min(60, left));
        return x;
    }

    /** A right text of the village or of the law: what it answers, no fault, and the tape is used up. */
    private static LastLoaf right(Supplier<LastLoaf> make, String reader, String text, int want) {
        LastLoaf x = make.get();
        tell(x, text);
        checks++;
        Object got = answer(x, reader);
        if (!got.equals((long) want)) fail(reader + "() of '" + text + "' answered " + got + ", due is " + want);
        due(x, NONE, "fault");
        due(x, 0, "end", 1);
        return x;
    }

    /** A wrong text: IllegalArgumentException, its first wrong byte, the tape is used up, and nothing of it stays. */
    private static void wrong(Supplier<LastLoaf> make, String reader, String text, int fault) {
        byte[] tape = text.getBytes(StandardCharsets.ISO_8859_1);
        refused(make, tape, true, ARGUMENT, reader);
        LastLoaf x = ready(make, tape);
        answer(x, reader);
        checks++;
        if (x.fault() != fault) fail("fault() of '" + text + "' answered " + x.fault() + ", due is " + fault);
    }

    private static void wrongVillage(String text, int fault) { wrong(() -> of(ONE + ";" + ONE), "village", text, fault); }
    private static void wrongLaw(String text, int fault) { wrong(() -> of(STANDS + ";" + ONE, "sway 1"), "law", text, fault); }
    private static LastLoaf rightVillage(String text) { return right(() -> of(ONE + ";" + ONE), "village", text, 2); }
    private static LastLoaf rightLaw(String text, int lines) { return right(() -> of(STANDS + ";" + ONE), "law", text, lines); }

    // ---- Terms: PEOPLE

    private static void peopleAtFirst() {
        LastLoaf x = of(ONE + ";" + ONE);
        sentence(7, "a PARTY 0 crust, 1 crumb, 2 neither (2 at first)");
        due(x, 2, "person", 0, 1);
        due(of("person hunger 1 party crust"), 0, "person", 0, 1);
        due(of("person hunger 1 party crumb"), 1, "person", 0, 1);
        sentence(7, "SKIN 0 to 9 (0 at first)");
        due(x, 0, "person", 0, 2);
        due(of("person hunger 1 skin 9"), 9, "person", 0, 2);
        sentence(8, "LIKES of each other one 0 to 9 (5 at first)");
        due(x, 5, "likes", 0, 1);
        due(x, 5, "likes", 1, 0);
        LastLoaf later = of(ONE + ";" + ONE + ";likes 0 1 0;likes 1 0 9");
        tell(later, ONE);
        later.village();
        for (int p = 0; p < 2; p++) {
            due(later, 5, "likes", 2, p);
            due(later, 5, "likes", p, 2);
        }
        sentence(7, "STANDS or not (not at first), BENCHED or not (not at first)");
        due(x, 0, "person", 0, 3);
        due(x, 0, "person", 0, 4);
        due(of("person hunger 9"), 0, "person", 0, 4);
        sentence(7, "0 to 99 (0 at first, both)");
        due(x, 0, "person", 0, 5);
        due(x, 0, "person", 0, 6);
        LastLoaf fresh = new LastLoaf();
        sentence(64, "FLOUR 0 to 9999 (0 at first)");
        due(fresh, 0, "count", 4);
        sentence(10, "GRIST of each SEASON 0 to 3: 0 to 99 (5 at first)");
        for (int s = 0; s < 4; s++) due(fresh, 5, "grist", s);
        refused(LastLoaf::new, PLACE, "grist", 4);
        refused(LastLoaf::new, PLACE, "grist", -1);
        refused(LastLoaf::new, PLACE, "grist", MOST);
        refused(LastLoaf::new, PLACE, "grist", LEAST);
        sentence(64, "WEEK 0 to 9999 (0 at first)");
        due(fresh, 0, "count", 3);
        sentence(16, "WAY of counting 0 to 5 (0 at first)");
        due(fresh, 0, "count", 5);
        due(fresh, 0, "way", 5);
        due(fresh, 5, "way", 0);
        sentence(64, "SPEECH 0 to 100 (0 at first)");
        due(fresh, 0, "count", 6);
        sentence(1, "`LastLoaf()`: A village of nobody.");
        LastLoaf y = new LastLoaf();
        long[] first = {0, 0, NONE, 0, 0, 0, 0, 0, 0, 0, 0, 0, 0, NONE};
        for (int what = 0; what < first.length; what++) due(y, first[what], "count", what);
        due(y, NONE, "fault");
        due(y, 0, "end", 1);
        due(y, 0, "undo");
        due(y, 0, "back");
        due(y, 1, "seed", 1);
    }

    private static void peopleAtMost() {
        sentence(4, "PEOPLE (at most 6, numbered from 0 on)");
        LastLoaf x = right(LastLoaf::new, "village", times(6, ONE), 1);
        due(x, 6, "count", 0);
        due(x, 1, "person", 0, 0);
        due(x, 1, "person", 5, 0);
        wrong(LastLoaf::new, "village", times(7, ONE), 6 * 16);
        wrong(() -> of(times(6, ONE)), "village", ONE, 0);
        wrong(() -> of(times(5, ONE)), "village", ONE + "; " + ONE, 17);
        due(right(() -> of(times(5, ONE)), "village", "person hunger 8", 2), 8, "person", 5, 0);
        right(() -> of(times(6, ONE)), "village", "likes 5 4 1", 2);
        sentence(11, "HAD: last loaves that one had, 0 to 999");
        LastLoaf eater = baked(of(STANDS), 998);
        due(eater, 998, "person", 0, 5);
        due(baked(eater, 1), 999, "person", 0, 5);
        due(baked(eater, 1), 999, "person", 0, 5);
        due(eater, 999, "count", 10);
        sentence(11, "RUN: how many of these one behind another, 0 to 99");
        LastLoaf runner = baked(of(STANDS), 98);
        due(runner, 98, "person", 0, 6);
        due(baked(runner, 1), 99, "person", 0, 6);
        due(baked(runner, 1), 99, "person", 0, 6);
        due(runner, 100, "person", 0, 5);
    }

    // ---- Terms: THE VILLAGE

    private static void villageTexts() {
        sentence(4, "THE VILLAGE is told in texts (at most 12, one behind another)");
        LastLoaf x = new LastLoaf();
        for (int i = 1; i <= 12; i++) {
            tell(x, "flour " + i);
            due(x, i, "village");
            due(x, i, "count", 1);
        }
        Supplier<LastLoaf> twelve = () -> {
            LastLoaf y = new LastLoaf();
            for (int i = 1; i <= 12; i++) y.village();
            return y;
        };
        refused(twelve, "flour 5".getBytes(StandardCharsets.ISO_8859_1), true, UNSUPPORTED, "village");
        refused(twelve, new byte[0], true, UNSUPPORTED, "village");
        sentence(4, "UnsupportedOperationException: there are 12.");
        LastLoaf y = twelve.get();
        tell(y, "flour 5");
        due(y, 12, "count", 1);
        same(answer(y, "village"), UNSUPPORTED, "the thirteenth");
        due(y, NONE, "fault");
        due(y, 0, "count", 4);
        due(y, 20, "feed", 0, 0, 0, 0, 0);
        sentence(5, "THE LAW (a text, in place of the one before)");
        LastLoaf z = twelve.get();
        for (int i = 1; i <= 14; i++) {
            tell(z, "sway 1;sway 2");
            due(z, 2, "law");
            tell(z, "abstain");
            due(z, 1, "law");
            due(z, 12, "count", 1);
        }
        sentence(4, "LINE { ; LINE }, at most 14: person hunger N");
        due(rightVillage(times(13, "flour 1") + ";flour 9"), 9, "count", 4);
        wrongVillage(times(15, "flour 1"), 14 * 8);
        wrongVillage(times(14, "flour 1") + ";  flour 1", 14 * 8 + 2);
        wrongVillage(times(14, "flour 1") + ";", 14 * 8);
        wrongVillage(times(14, "flour 1") + ";x", 14 * 8);
        wrongVillage(times(14, "flour 1") + " flour 1", 14 * 8);
        sentence(4, "A text that is empty, or blanks alone, has no LINE.");
        String was = state(of(ONE + ";" + ONE)).replaceFirst("^2 1 ", "");
        for (String text : new String[] {"", " ", "                    "}) same(state(rightVillage(text)).replaceFirst("^2 2 ", ""), was, "the village");
        sentence(5, "A text that is empty, or blanks alone, has no LINE.");
        due(rightLaw("", 0), 0, "count", 2);
        due(rightLaw("   ", 0), 0, "count", 2);
    }

    private static void villageNumbers() {
        sentence(4, "HUNGER 0 to 9");
        due(rightVillage("person hunger 0"), 0, "person", 2, 0);
        due(rightVillage("person hunger 9"), 9, "person", 2, 0);
        wrongVillage("person hunger 10", 14);
        sentence(4, "SKIN 0 to 9 (0 at first)");
        due(rightVillage("person hunger 1 skin 0"), 0, "person", 2, 2);
        due(rightVillage("person hunger 1 skin 9"), 9, "person", 2, 2);
        wrongVillage("person hunger 1 skin 10", 21);
        sentence(4, "LIKES of each other one 0 to 9 (5 at first)");
        due(rightVillage("likes 0 1 0"), 0, "likes", 0, 1);
        due(rightVillage("likes 0 1 9"), 9, "likes", 0, 1);
        wrongVillage("likes 0 1 10", 10);
        sentence(4, "flour, week: 0 to 999.");
        due(rightVillage("flour 0"), 0, "count", 4);
        due(rightVillage("flour 999"), 999, "count", 4);
        wrongVillage("flour 1000", 6);
        due(rightVillage("week 0"), 0, "count", 3);
        due(rightVillage("week 999"), 999, "count", 3);
        wrongVillage("week 1000", 5);
        sentence(4, "GRIST of each SEASON 0 to 3: 0 to 99 (5 at first)");
        due(rightVillage("grist winter 0"), 0, "grist", 3);
        due(rightVillage("grist winter 99"), 99, "grist", 3);
        wrongVillage("grist winter 100", 13);
        sentence(4, "WAY of counting 0 to 5 (0 at first)");
        due(rightVillage("way 0"), 0, "count", 5);
        due(rightVillage("way 5"), 5, "count", 5);
        wrongVillage("way 6", 4);
        sentence(4, "SPEECH 0 to 100 (0 at first)");
        due(rightVillage("speech 0"), 0, "count", 6);
        due(rightVillage("speech 100"), 100, "count", 6);
        wrongVillage("speech 101", 7);
        sentence(4, "Numbers are of 1 to 3 digits.");
        due(rightVillage("flour 7"), 7, "count", 4);
        due(rightVillage("flour 07"), 7, "count", 4);
        due(rightVillage("flour 007"), 7, "count", 4);
        wrongVillage("flour 0007", 6);
        wrongVillage("flour ", 6);
        due(rightVillage("person hunger 009"), 9, "person", 2, 0);
        wrongVillage("person hunger 0009", 14);
        due(rightVillage("likes 000 001 002"), 2, "likes", 0, 1);
        wrongVillage("likes 0000 1 2", 6);
        wrongVillage("likes 0 0001 2", 8);
        wrongVillage("flour 99999999999999999999", 6);
        wrongVillage("flour 4294967296", 6);
        wrongVillage("flour -1", 6);
        wrongVillage("flour +1", 6);
    }

    private static void villageOrder() {
        sentence(4, "person hunger N [ party P ] [ skin N ] [ stands ]");
        LastLoaf x = rightVillage("person hunger 3 party crumb skin 4 stands");
        int[] all = {3, 1, 4, 1};
        for (int what = 0; what < 4; what++) due(x, all[what], "person", 2, what);
        due(rightVillage("person hunger 3 stands"), 1, "person", 2, 3);
        due(rightVillage("person hunger 3 skin 4 stands"), 4, "person", 2, 2);
        due(rightVillage("person hunger 3 party crust stands"), 0, "person", 2, 1);
        wrongVillage("person hunger 3 skin 4 party crust", 23);
        wrongVillage("person hunger 3 stands skin 4", 23);
        wrongVillage("person hunger 3 stands party crust", 23);
        wrongVillage("person hunger 3 stands stands", 23);
        wrongVillage("person hunger 3 skin 1 skin 1", 23);
        wrongVillage("person hunger 3 party crust party crust", 28);
        wrongVillage("person skin 3 hunger 4", 7);
        sentence(4, "(P: crust, crumb;");
        wrongVillage("person hunger 3 party neither", 22);
        wrongVillage("person hunger 3 party 2", 22);
        wrongVillage("person hunger 3 party", 21);
        wrongVillage("person hunger 3 party crus", 22);
        sentence(4, "H: a person that there is by then;");
        due(right(LastLoaf::new, "village", ONE + ";" + ONE + ";likes 1 0 7", 1), 7, "likes", 1, 0);
        wrong(LastLoaf::new, "village", ONE + ";likes 1 0 7;" + ONE, 22);
        wrong(LastLoaf::new, "village", ONE + ";likes 0 1 7;" + ONE, 24);
        wrong(LastLoaf::new, "village", "likes 0 1 7", 6);
        wrongVillage("likes 2 0 1", 6);
        wrongVillage("likes 0 2 1", 8);
        wrongVillage("likes 999 0 1", 6);
        sentence(4, "likes: the first one the second one, another one, else it is wrong at it, N 0 to 9;");
        LastLoaf y = rightVillage("likes 0 1 8");
        due(y, 8, "likes", 0, 1);
        due(y, 5, "likes", 1, 0);
        wrongVillage("likes 0 0 1", 8);
        wrongVillage("likes 1   1 1", 10);
        wrongVillage("likes 1 001 1", 8);
        sentence(4, "Q: spring (0), summer (1), autumn (2), winter (3);");
        LastLoaf z = rightVillage("grist spring 1;grist summer 2;grist autumn 3;grist winter 4");
        for (int s = 0; s < 4; s++) due(z, s + 1, "grist", s);
        wrongVillage("grist fall 1", 6);
        wrongVillage("grist 0 1", 6);
        wrongVillage("grist springs 1", 6);
    }

    // ---- Terms: THE LAW

    private static void lawLines() {
        sentence(5, "LINE { ; LINE }, at most 12: sway N");
        due(rightLaw(times(12, "sway 1"), 12), 17, "favour", 1, 0);
        wrongLaw(times(13, "sway 1"), 12 * 7);
        wrongLaw(times(12, "sway 1") + ";  abstain", 12 * 7 + 2);
        wrongLaw(times(12, "sway 1") + ";", 12 * 7);
        wrongLaw(times(12, "sway 1") + " sway 1", 12 * 7);
        due(rightLaw("sway 1", 1), 1, "count", 2);
        sentence(5, "how many LINES.");
        for (int n = 1; n <= 12; n++) due(rightLaw(times(n, "abstain"), n), n, "count", 2);
        sentence(5, "sway N [ if C ] | spite N [ if C ] | abstain [ if C ]");
        wrongLaw("sway", 4);
        wrongLaw("spite", 5);
        wrongLaw("sway if same", 5);
        wrongLaw("abstain 1", 8);
        wrongLaw("sway 1 same", 7);
        wrongLaw("sway 1 if", 9);
        wrongLaw("abstain if", 10);
        rightLaw("abstain", 1);
        rightLaw("spite 1", 1);
    }

    private static void lawNumbers() {
        sentence(5, "All numbers are of 1 to 3 digits (N 0 to 20).");
        due(rightLaw("sway 0", 1), 5, "favour", 1, 0);
        due(rightLaw("sway 20", 1), 25, "favour", 1, 0);
        due(rightLaw("sway 020", 1), 25, "favour", 1, 0);
        wrongLaw("sway 21", 5);
        wrongLaw("sway 0020", 5);
        due(rightLaw("spite 20", 1), -15, "favour", 1, 0);
        wrongLaw("spite 21", 6);
        wrongLaw("spite 0001", 6);
        due(rightLaw("sway 1 if 999>998", 1), 6, "favour", 1, 0);
        due(rightLaw("sway 1 if 999<999", 1), 5, "favour", 1, 0);
        due(rightLaw("sway 1 if 000<001", 1), 6, "favour", 1, 0);
        wrongLaw("sway 1 if 1000>1", 10);
        wrongLaw("sway 1 if 1>0001", 12);
        wrongLaw("sway 1 if 1+0001>1", 12);
        sentence(5, "SUM < SUM | SUM > SUM");
        due(rightLaw("sway 1 if 3<3", 1), 5, "favour", 1, 0);
        due(rightLaw("sway 1 if 3>3", 1), 5, "favour", 1, 0);
        due(rightLaw("sway 1 if 3<4", 1), 6, "favour", 1, 0);
        due(rightLaw("sway 1 if 4>3", 1), 6, "favour", 1, 0);
        due(rightLaw("sway 1 if 4<3", 1), 5, "favour", 1, 0);
        due(rightLaw("sway 1 if 3>4", 1), 5, "favour", 1, 0);
        wrongLaw("abstain if 1<2<3", 14);
        wrongLaw("abstain if 1", 12);
        wrongLaw("abstain if 1=1", 12);
        wrongLaw("abstain if <1", 11);
        sentence(5, "SUM: PART { + PART }");
        due(rightLaw("sway 1 if 1+2+3>5", 1), 6, "favour", 1, 0);
        due(rightLaw("sway 1 if 6>1+2+3", 1), 5, "favour", 1, 0);
        wrongLaw("abstain if 1+<2", 13);
        wrongLaw("abstain if 1+", 13);
        wrongLaw("abstain if +1<2", 11);
        wrongLaw("abstain if 1<2+", 15);
        wrongLaw("abstain if 1<2+same", 15);
        StringBuilder sum = new StringBuilder("sway 1 if 999");
        while (sum.length() < 392) sum.append("+999");
        sum.append(">999");
        due(rightLaw(sum.toString(), 1), 6, "favour", 1, 0);
        StringBuilder full = new StringBuilder("sway1if0");
        while (full.length() < 398) full.append("+0");
        due(rightLaw(full + "<1", 1), 6, "favour", 1, 0);
        due(rightLaw(full + ">1", 1), 5, "favour", 1, 0);
        wrongLaw(full + "+1", 400);
    }

    private static void lawMeaning() {
        sentence(9, "likes: LIKES of the voter of it (9 of itself)");
        LastLoaf x = of(STANDS + ";" + STANDS + ";likes 0 1 2;likes 1 0 7", "sway 10 if likes>8");
        due(x, 19, "favour", 0, 0);
        due(x, 2, "favour", 0, 1);
        withLaw(x, "sway 10 if likes<3");
        due(x, 12, "favour", 0, 1);
        due(x, 7, "favour", 1, 0);
        sentence(9, "same: both are of one PARTY that is not 2.");
        String parties = "person hunger 1 party crust;person hunger 1 party crust;person hunger 1 party crumb;person hunger 1 party crumb;" + ONE + ";" + ONE;
        LastLoaf y = of(parties, "sway 10 if same");
        for (int p = 0; p < 6; p++) {
            for (int q = 0; q < 6; q++) due(y, (p == q ? 9 : 5) + (p < 4 && p / 2 == q / 2 ? 10 : 0), "favour", p, q);
        }
        sentence(9, "(without a text: also 2 more, if same)");
        LastLoaf z = of(parties);
        for (int p = 0; p < 6; p++) {
            for (int q = 0; q < 6; q++) due(z, (p == q ? 9 : 5) + (p < 4 && p / 2 == q / 2 ? 2 : 0), "favour", p, q);
        }
        withLaw(z, "");
        due(z, 5, "favour", 0, 1);
        due(z, 9, "favour", 0, 0);
        sentence(9, "the sum of N of all sway LINES that hold, less that of all spite LINES");
        due(of(ONE + ";" + ONE, "spite 20;spite 20;sway 3"), -32, "favour", 0, 1);
        due(of(ONE + ";" + ONE, times(12, "spite 20")), 5 - 240, "favour", 0, 1);
        due(of(ONE + ";" + ONE, times(12, "sway 20")), 5 + 240, "favour", 0, 1);
        due(of(ONE + ";" + ONE, "spite 20 if 1<0;sway 20 if 1<0"), 5, "favour", 0, 1);
        sentence(64, "ABSTAINS: whether some abstain LINE holds, the other one being the voter itself.");
        due(of(STANDS + ";" + ONE, "abstain"), 0, "count", 7);
        due(of(STANDS + ";" + ONE, "abstain if 1<0;abstain if voter<1"), 2, "count", 7);
        due(of(STANDS + ";" + ONE, "abstain if voter<other or other<voter"), 3, "count", 7);
        due(of(STANDS + ";" + ONE, "abstain if likes>8"), 0, "count", 7);
        due(of("person hunger 3 stands;" + ONE, "abstain if hunger>2"), 2, "count", 7);
        due(of(STANDS + ";" + ONE, "abstain if not standing"), 1, "count", 7);
        sentence(9, "skin, standing: of the voter;");
        LastLoaf w = of("person hunger 1 skin 8 stands;" + ONE, "sway 1 if skin>7;sway 10 if standing");
        due(w, 16, "favour", 0, 1);
        due(w, 5, "favour", 1, 0);
        due(baked(of(STARVING, "sway 10 if standing"), 1), 15, "favour", 0, 2);
        due(baked(of(STARVING, "sway 10 if standing"), 1), 5, "favour", 1, 2);
        sentence(9, "other, hunger, had, run: of the one who STANDS;");
        LastLoaf eaten = baked(of("person hunger 3 skin 1 stands;person hunger 6 skin 2;person hunger 0 skin 3 stands", "spite 9 if had>2"), 4);
        // 0 had it three times, then 2; 0 and 2 are of HUNGER 1 and 0
        String[] parts = {"voter", "other", "likes", "hunger", "had", "run", "skin"};
        int[][] known = {{2, 0, 5, 1, 3, 0, 3}, {1, 2, 5, 0, 1, 1, 2}};
        for (int i = 0; i < parts.length; i++) {
            for (int row = 0; row < 2; row++) {
                int n = known[row][i];
                withLaw(eaten, "sway 7 if " + parts[i] + "<" + (n + 1) + " and " + parts[i] + "+1>" + n);
                due(eaten, 12, "favour", known[row][0], known[row][1]);
                withLaw(eaten, "sway 7 if " + parts[i] + "<" + n + ";sway 3 if " + parts[i] + ">" + n);
                due(eaten, 5, "favour", known[row][0], known[row][1]);
            }
        }
        sentence(9, "C: ALL { or ALL }; ALL: ATOM { and ATOM }; ATOM: not ATOM | ( C )");
        String[] signs = {"0<1", "1<0"};
        for (int bits = 0; bits < 8; bits++) {
            boolean a = (bits & 1) == 0, b = (bits & 2) == 0, c = (bits & 4) == 0;
            String x1 = signs[bits & 1], y1 = signs[bits >> 1 & 1], z1 = signs[bits >> 2];
            boolean[] hold = {a && b || c, a || b && c, a && b && c, a || b || c, !a && b || c, !(a && b || c), (a || b) && c, a && (b || c), a || !(b || c), !a || !b && !c};
            String[] texts = {x1 + " and " + y1 + " or " + z1, x1 + " or " + y1 + " and " + z1, x1 + " and " + y1 + " and " + z1, x1 + " or " + y1 + " or " + z1,
                "not " + x1 + " and " + y1 + " or " + z1, "not (" + x1 + " and " + y1 + " or " + z1 + ")", "(" + x1 + " or " + y1 + ") and " + z1,
                x1 + " and (" + y1 + " or " + z1 + ")", x1 + " or not (" + y1 + " or " + z1 + ")", "not " + x1 + " or not " + y1 + " and not " + z1};
            for (int i = 0; i < texts.length; i++) due(of(ONE + ";" + ONE, "sway 9 if " + texts[i]), hold[i] ? 14 : 5, "favour", 0, 1);
        }
        // As many as a TAPE of 400 bytes holds
        for (String join : new String[] {" and ", " or "}) {
            StringBuilder chain = new StringBuilder("sway 9 if ");
            String most = join.equals(" and ") ? "0<1" : "1<0", last = join.equals(" and ") ? "1<0" : "0<1";
            while (chain.length() + join.length() + 6 < 400) chain.append(most).append(join);
            due(of(ONE + ";" + ONE, chain + most), join.equals(" and ") ? 14 : 5, "favour", 0, 1);
            due(of(ONE + ";" + ONE, chain + last), join.equals(" and ") ? 5 : 14, "favour", 0, 1);
        }
        String deep = "1<0 or 0<1 and (";
        String nested = deep + deep + deep + deep + deep + deep + "1<0 or 0<1 and voter<1))))))";
        due(of(ONE + ";" + ONE, "sway 9 if " + nested), 14, "favour", 0, 1);
        due(of(ONE + ";" + ONE, "sway 9 if " + nested), 5, "favour", 1, 0);
        sentence(9, "(standing or not; itself, too)");
        due(of(ONE + ";" + ONE, "sway 3 if other>0"), 8, "favour", 0, 1);
        due(of(ONE + ";" + ONE, "sway 3 if other>0"), 12, "favour", 1, 1);
    }

    private static void signs() {
        sentence(4, "Words are as long as a to z go on;");
        due(rightVillage("flour5"), 5, "count", 4);
        due(rightVillage("person hunger 1skin 2stands;flour 3"), 2, "person", 2, 2);
        wrongVillage("flours 5", 0);
        wrongVillage("flou 5", 0);
        wrongVillage("flourz 5", 0);
        wrongVillage("floura 5", 0);
        wrongVillage("glour 5", 0);
        wrongVillage("flour{5", 5);
        wrongVillage("flour`5", 5);
        wrongVillage("Flour 5", 0);
        wrongVillage("flouR 5", 0);
        wrongVillage("flour 5flour 5", 7);
        wrongVillage("personhunger 1", 0);
        sentence(5, "Words are as long as a to z go on;");
        rightLaw("sway1if not(same)and 1<2or hunger>3", 1);
        wrongLaw("abstain if notsame", 11);
        wrongLaw("abstain ifsame", 8);
        wrongLaw("abstain if sames", 11);
        wrongLaw("abstain if same andsame", 16);
        sentence(4, "between all there may be blanks (32), also ahead and behind.");
        due(rightVillage("   flour    5   ;    flour   6   "), 6, "count", 4);
        rightVillage(" likes  0  1  2 ");
        for (int sign : new int[] {0, 9, 10, 13, 31, 33, 127, 160, 255}) {
            wrongVillage("flour 5" + (char) sign, 7);
            wrongVillage((char) sign + "flour 5", 0);
            wrongVillage("flour" + (char) sign + "5", 5);
            wrongLaw("sway" + (char) sign + "5", 4);
        }
        wrongVillage("fl our 5", 0);
        wrongVillage("flour 1 2", 8);
        sentence(5, "between all there may be blanks (32), also ahead and behind.");
        due(rightLaw("   sway   3  if   (  1 <  2   +  3 )  and  not   same  ;  spite  1  ", 2), 7, "favour", 1, 0);
        rightLaw("abstain if(1<2)", 1);
    }

    private static void depth() {
        sentence(5, "( and not within one another at most 6 deep.");
        String six = "((((((same))))))";
        rightLaw("abstain if " + six, 1);
        wrongLaw("abstain if (" + six + ")", 11 + 6);
        rightLaw("abstain if not not not not not not same", 1);
        wrongLaw("abstain if not not not not not not not same", 11 + 24);
        rightLaw("abstain if not ( not ( not ( same ) ) )", 1);
        wrongLaw("abstain if not ( not ( not ( not same ) ) )", 11 + 18);
        wrongLaw("abstain if not ( not ( not ( ( same ) ) ) )", 11 + 18);
        rightLaw("abstain if " + six + " or " + six + " and " + six, 1);
        rightLaw("abstain if not not not not not not same and not not not not not not same or " + six, 1);
        rightLaw("abstain if (" + "(((((same)))))" + " or not not not not not same)", 1);
        wrongLaw("abstain if (" + "(((((same)))))" + " or not not not not not not same)", 12 + 14 + 4 + 20);
        rightLaw("abstain if not not not not not 1<2 and (1<2);abstain if not " + "(((((same)))))", 2);
        LastLoaf x = of(STANDS + ";" + ONE, "sway 1 if not not not not not not 1<2;sway 2 if not not not not not 1<2;sway 4 if ((((((1<2))))))");
        due(x, 10, "favour", 1, 0);
    }

    private static void wrongBytes() {
        sentence(6, "the begin of the first thing that cannot stand there");
        wrongVillage("  x", 2);
        wrongVillage(";flour 1", 0);
        wrongVillage("flour 1;;flour 1", 8);
        wrongVillage("flour 1,flour 1", 7);
        wrongVillage("5", 0);
        wrongLaw("abstain if same and or same", 20);
        wrongLaw("abstain if same)", 15);
        wrongLaw("abstain if (same))", 17);
        wrongLaw("abstain if ()", 12);
        wrongLaw("abstain if (1)<2", 13);
        wrongLaw("abstain if same<1", 15);
        wrongLaw("abstain if 1<same", 13);
        wrongLaw("abstain if same or sway 1", 19);
        sentence(6, "(a number of more digits, or out of its bounds, or that tells none that can be;");
        wrongVillage("flour  0001", 7);
        wrongVillage("way 9", 4);
        wrongVillage("likes 0 5 1", 8);
        wrongLaw("sway 999", 5);
        sentence(6, "a word that is none;");
        wrongVillage("flour 1;flower 1", 8);
        wrongVillage("person hanger 1", 7);
        wrongLaw("abstain if flour>1", 11);
        wrongLaw("abstain when same", 8);
        sentence(6, "the ( or not that is a 7th one deep;");
        wrongLaw("abstain if ((((((not same))))))", 17);
        wrongLaw("abstain if not not not not not not (same)", 35);
        wrongLaw("abstain if not not not not not not (x)", 35);
        sentence(6, "of a LINE, a person too many, the first word)");
        wrongVillage(times(14, "way 1") + ";way 9", 14 * 6);
        wrongVillage(times(4, ONE) + " ; person hanger", 4 * 16 + 2);
        wrongLaw(times(12, "abstain") + ";abstain if x", 12 * 8);
        sentence(6, "or the text's length, if more must come.");
        wrongVillage("flour", 5);
        wrongVillage("flour   ", 8);
        wrongVillage("flour 1;", 8);
        wrongVillage("flour 1; ", 9);
        wrongVillage("person", 6);
        wrongVillage("person hunger", 13);
        wrongVillage("person hunger 1 skin", 20);
        wrongVillage("likes", 5);
        wrongVillage("likes 0", 7);
        wrongVillage("likes 0 1", 9);
        wrongVillage("grist", 5);
        wrongVillage("grist spring", 12);
        wrongLaw("sway 1;", 7);
        wrongLaw("abstain if not", 14);
        wrongLaw("abstain if (same", 16);
        wrongLaw("abstain if (same  ", 18);
        wrongLaw("abstain if same and", 19);
        wrongLaw("abstain if 1<", 13);
        wrongLaw("abstain if hunger", 17);
    }

    private static void wrongTexts() {
        sentence(4, "Of a wrong text nothing stays.");
        wrongVillage("person hunger 1;flour 5;way 3;speech 4;week 5;grist spring 9;likes 0 1 9;likes 2 0 9;x", 85);
        wrongVillage("person hunger 1 skin 4 stands;likes 2 1 9;person hunger 10", 56);
        LastLoaf x = of(ONE);
        tell(x, "person hunger 2 party crust skin 7 stands;likes 1 0 9;likes 0 1 9;x");
        same(answer(x, "village"), ARGUMENT, "a wrong text");
        tell(x, ONE);
        x.village();
        int[] fresh = {1, 2, 0, 0, 0, 0, 0};
        for (int what = 0; what < 7; what++) due(x, fresh[what], "person", 1, what);
        due(x, 5, "likes", 1, 0);
        due(x, 5, "likes", 0, 1);
        sentence(5, "Of a wrong text nothing stays.");
        wrongLaw("spite 9;abstain;x", 16);
        wrong(() -> of(STANDS), "law", "spite 9;abstain;x", 16);
        sentence(6, "The first wrong byte of the latest text that was read; NONE without one, and ahead of any.");
        LastLoaf y = new LastLoaf();
        due(y, NONE, "fault");
        tell(y, "way 1;x");
        same(answer(y, "village"), ARGUMENT, "a wrong text");
        due(y, 6, "fault");
        tell(y, "sway 21");
        due(y, 6, "fault");
        same(answer(y, "law"), ARGUMENT, "a wrong law");
        due(y, 5, "fault");
        y.ballots();
        due(y, 5, "fault");
        due(y, 1, "village");
        due(y, NONE, "fault");
        tell(y, "x");
        same(answer(y, "law"), ARGUMENT, "a wrong law");
        due(y, 0, "fault");
        due(y, 0, "law");
        due(y, NONE, "fault");
        StringBuilder full = new StringBuilder("flour 1;way 1;");
        while (full.length() < 399) full.append(' ');
        sentence(6, "The first wrong byte");
        wrongVillage(full + "x", 399);
        wrongVillage(full + " ", 400);
    }

    // ---- ==== 2.

    private static void voting() {
        sentence(64, "VOTERS: all who are not BENCHED and do not ABSTAIN.");
        LastLoaf x = of(STARVING, "abstain if skin>1");
        due(x, 3, "count", 7);
        x.weeks(1);
        due(x, 0, "count", 7);
        x.fetch(1);
        due(x, 2, "count", 7);
        sentence(64, "RUNNERS: all who STAND and are not BENCHED.");
        LastLoaf y = of(STARVING);
        due(y, 5, "count", 8);
        y.weeks(1);
        due(y, 4, "count", 8);
        due(y, 5, "crowd");
        sentence(20, "RUNNERS by FAVOUR, the greatest first, of like ones by numbers.");
        LastLoaf z = of(STANDS + ";" + STANDS + ";" + STANDS + ";" + ONE + ";likes 3 1 6;likes 0 2 9");
        int[][] ranks = {{0, 2, 1}, {1, 0, 2}, {2, 0, 1}, {1, 0, 2}};
        for (int p = 0; p < 4; p++) {
            for (int k = 0; k < 3; k++) due(z, ranks[p][k], "rank", p, k);
            for (int k : new int[] {3, 6, -1, MOST, LEAST}) due(z, NONE, "rank", p, k);
        }
        sentence(20, "NONE (of no VOTER, too).");
        withLaw(z, "abstain if voter>2");
        due(z, NONE, "rank", 3, 0);
        due(z, 2, "rank", 2, 0);
        due(of(ONE), NONE, "rank", 0, 0);
        LastLoaf benched = baked(of(STARVING), 1);
        due(benched, NONE, "rank", 0, 0);
        due(benched, 2, "rank", 2, 0);
        sentence(21, "if more VOTERS have it ahead in their RANK than behind");
        LastLoaf two = of(STANDS + ";" + STANDS + ";" + ONE + ";" + ONE + ";likes 2 0 9;likes 3 1 9");
        due(two, 0, "beats", 0, 1);
        due(two, 0, "beats", 1, 0);
        two.like(3, 0, 9);
        due(two, 1, "beats", 0, 1);
        due(two, 0, "beats", 1, 0);
        withLaw(two, "abstain");
        due(two, 0, "beats", 0, 1);
        due(two, 0, "beats", 1, 0);
        sentence(21, "(not, if one is no RUNNER)");
        LastLoaf one = of(STANDS + ";" + ONE);
        due(one, 0, "beats", 0, 1);
        due(one, 0, "beats", 1, 0);
        due(baked(of(STARVING), 1), 0, "beats", 2, 0);
    }

    /** Votes by voters from 3 on for 0, 1 and 2, who do not vote themselves. */
    private static LastLoaf voted(String likes) {
        return of(times(3, STANDS) + ";" + times(3, ONE) + ";" + likes, "abstain if standing");
    }

    private static void ways() {
        sentence(19, "WINNER by a WAY (of several the least; none without RUNNERS)");
        for (int way = 0; way < 6; way++) {
            due(of(ONE), NONE, "winner", way);
            due(new LastLoaf(), NONE, "winner", way);
            due(of(ONE + ";" + STANDS), 1, "winner", way);
            due(of(ONE + ";" + STANDS, "abstain"), 1, "winner", way);
            due(of(ONE + ";" + STANDS + ";" + STANDS, "abstain"), 1, "winner", way);
        }
        LastLoaf each = voted("likes 3 0 9;likes 4 1 9;likes 5 2 9");
        for (int way : new int[] {0, 4, 5}) due(each, 0, "winner", way);
        sentence(19, "0 who is first in the most RANKS;");
        due(voted("likes 3 1 9;likes 4 1 9;likes 5 0 9"), 1, "winner", 0);
        due(voted("likes 3 2 9;likes 4 1 9;likes 5 0 9"), 0, "winner", 0);
        sentence(19, "1 who is last in the fewest;");
        due(voted("likes 3 0 9;likes 3 1 1;likes 4 0 1;likes 5 0 9;likes 5 1 1"), 2, "winner", 1);
        due(voted("likes 3 0 1;likes 4 1 1;likes 5 2 1"), 0, "winner", 1);
        sentence(19, "2 of the most points (each RANK gives to the last 0, to the next one ahead 1, and on);");
        LastLoaf points = voted("likes 3 0 9;likes 3 1 8;likes 4 1 9;likes 4 2 8;likes 5 1 9;likes 5 0 8");
        due(points, 1, "winner", 2);
        due(points, 3, "person", 0, 9);
        due(points, 5, "person", 1, 9);
        due(points, 1, "person", 2, 9);
        due(voted("likes 3 0 9;likes 3 1 8;likes 4 1 9;likes 4 2 8;likes 5 2 9;likes 5 0 8"), 0, "winner", 2);
        sentence(19, "3 who BEATS the most others;");
        due(voted("likes 3 2 9;likes 4 2 9;likes 5 1 9"), 2, "winner", 3);
        due(voted("likes 3 0 9;likes 3 1 8;likes 4 1 9;likes 4 2 8;likes 5 2 9;likes 5 0 8"), 0, "winner", 3);
        sentence(19, "who is first in the fewest RANKS of those left (of several the greatest number) goes, till one is left;");
        // 0, 1 and 2 are first once each: 2 goes, and its voter has 1 ahead of 0
        due(voted("likes 3 0 9;likes 4 1 9;likes 5 2 9;likes 5 1 8"), 1, "winner", 4);
        due(voted("likes 3 0 9;likes 4 1 9;likes 5 2 9;likes 5 0 8"), 0, "winner", 4);
        due(voted("likes 3 2 9;likes 4 2 9;likes 5 1 9"), 2, "winner", 4);
        sentence(19, "5 the first two by WAY 0 (the WINNER, and the WINNER if that one did not stand), of these the one that BEATS the other one, else the one of the lesser number.");
        // 0 is first; without it 2 is, by the voter of 0 too, and 2 is ahead of 0 for none but one
        due(voted("likes 3 0 9;likes 3 2 8;likes 4 0 9;likes 4 2 8;likes 5 1 9"), 0, "winner", 5);
        // 0 by the least number of three alike; without it 1 and 2 are alike but for the voter of 0, who has 2 ahead
        due(voted("likes 3 0 9;likes 3 2 8;likes 4 1 9;likes 4 2 8;likes 5 2 9;likes 5 1 8"), 2, "winner", 5);
        due(of(STANDS + ";" + STANDS), 0, "winner", 5);
        due(of(ONE + ";" + ONE + ";" + STANDS), 2, "winner", 5);
        LastLoaf four = of(STANDS + ";" + STANDS + ";" + ONE + ";" + ONE + ";likes 2 1 9;likes 3 0 9", "abstain if standing");
        due(four, 0, "winner", 5);
        four.like(3, 1, 9);
        four.like(3, 0, 8);
        due(four, 1, "winner", 5);
        // The one voter has itself last
        due(of(times(3, STANDS), "abstain if voter>0;spite 20 if other<1"), 1, "winner", 1);
        due(of(times(3, STANDS), "abstain if voter<2;spite 20 if other<1"), 1, "winner", 1);
        sentence(19, "The WINNER by a WAY now; NONE.");
        String[] votes = {"likes 3 1 9;likes 4 1 9;likes 5 0 9", "likes 3 0 1;likes 4 1 1;likes 5 2 1", "likes 3 2 9;likes 3 1 8;likes 4 1 9;likes 4 2 8;likes 5 0 9;likes 5 2 8"};
        for (String told : votes) {
            int[] alone = new int[6];
            for (int way = 0; way < 6; way++) alone[way] = voted(told).winner(way);
            LastLoaf asked = voted(told);
            for (int i = 0; i < 36; i++) {
                due(asked, alone[i / 6], "winner", i / 6);
                due(asked, alone[i % 6], "winner", i % 6);
            }
        }
        sentence(19, "IllegalArgumentException: the WAY is none.");
        for (int way : new int[] {-1, 6, MOST, LEAST}) refused(() -> of(STANDS), ARGUMENT, "winner", way);
    }

    private static void weekFlour() {
        sentence(11, "(a) FLOUR is GRIST of the SEASON more (9999 at most);");
        LastLoaf x = of("grist spring 98;grist summer 1;grist autumn 99;grist winter 1;flour 901");
        for (int i = 0; i < 9; i++) x.bring(999);
        x.bring(9);
        due(x, 9901, "count", 4);
        x.weeks(1);
        due(x, 9999, "count", 4);
        x.weeks(1);
        due(x, 9999, "count", 4);
        x.weeks(1);
        due(x, 9999, "count", 4);
        sentence(11, "its SEASON is WEEK modulo 4.");
        LastLoaf y = of("grist spring 1;grist summer 10;grist autumn 0;grist winter 50;week 998");
        int[] flours = {0, 50, 51, 61, 61, 111};
        for (int flour : flours) {
            y.weeks(1);
            due(y, flour, "count", 4);
        }
        sentence(11, "WEEK is 1 more (9999 at most).");
        LastLoaf z = baked(of("grist spring 1;grist summer 2;grist autumn 3;grist winter 0;week 999;" + STANDS), 8999);
        due(z, 9998, "count", 3);
        z.weeks(1);
        due(z, 9999, "count", 3);
        due(z, 9998, "log", 0, 0);
        int flour = z.count(4);
        z.weeks(2);
        due(z, 9999, "count", 3);
        due(z, 9999, "log", 0, 0);
        due(z, 9999, "log", 1, 0);
        // WEEK 9999 is of winter, which has no GRIST: the one who stands eats of what there is
        due(z, flour - 2, "count", 4);
        sentence(11, "with FLOUR it is 1 less and HUNGER is 0, else HUNGER is 1 more (9 at most);");
        LastLoaf w = of("person hunger 7;person hunger 7;person hunger 7;flour 1" + NO_GRIST);
        w.weeks(1);
        due(w, 0, "person", 0, 0);
        due(w, 8, "person", 1, 0);
        due(w, 8, "person", 2, 0);
        due(w, 0, "count", 4);
        due(baked(of("person hunger 9" + NO_GRIST), 1), 9, "person", 0, 0);
        due(baked(of("person hunger 9;flour 1" + NO_GRIST), 1), 0, "person", 0, 0);
        sentence(11, "each who neither STANDS nor is BENCHED, by numbers:");
        LastLoaf v = of("person hunger 3 stands;person hunger 9;person hunger 3;flour 1" + NO_GRIST);
        v.weeks(1);
        due(v, 4, "person", 0, 0);
        due(v, 0, "person", 1, 0);
        due(v, 4, "person", 2, 0);
        LastLoaf u = of("person hunger 9;person hunger 3" + NO_GRIST);
        u.weeks(1);
        u.bring(1);
        u.weeks(1);
        due(u, 9, "person", 0, 0);
        due(u, 0, "person", 1, 0);
    }

    private static void weekLoaf() {
        sentence(11, "the WINNER by WAY, if there is FLOUR: FLOUR is 1 less, HUNGER is 0, HAD and RUN are 1 more (999, 99 at most);");
        LastLoaf x = of("person hunger 4 stands;person hunger 4 stands;person hunger 4;flour 2" + NO_GRIST);
        x.weeks(1);
        due(x, 0, "count", 4);
        int[][] fed = {{0, 1, 1}, {5, 0, 0}, {0, 0, 0}};
        for (int p = 0; p < 3; p++) {
            due(x, fed[p][0], "person", p, 0);
            due(x, fed[p][1], "person", p, 5);
            due(x, fed[p][2], "person", p, 6);
        }
        LastLoaf none = of("person hunger 4 stands;person hunger 4 stands;person hunger 4;flour 1" + NO_GRIST);
        none.weeks(1);
        due(none, 0, "person", 0, 5);
        due(none, 0, "count", 11);
        due(none, 0, "count", 4);
        due(baked(of("flour 3" + NO_GRIST), 1), 3, "count", 4);
        due(baked(of(ONE + ";flour 3" + NO_GRIST), 1), 2, "count", 4);
        sentence(11, "RUN of all others is 0;");
        LastLoaf y = of(STANDS + ";" + STANDS + ";flour 9", "spite 9 if had>1");
        y.weeks(2);
        due(y, 2, "person", 0, 6);
        y.weeks(1);
        due(y, 0, "person", 0, 6);
        due(y, 1, "person", 1, 6);
        due(y, 2, "person", 0, 5);
        LastLoaf gone = baked(of(STANDS + ";" + ONE), 2);
        gone.stand(0, false);
        gone.weeks(1);
        due(gone, 0, "person", 0, 6);
        due(gone, 2, "person", 0, 5);
        LastLoaf bare = baked(of(STANDS + ";flour 2" + NO_GRIST), 2);
        due(bare, 2, "person", 0, 6);
        due(baked(bare, 1), 0, "person", 0, 6);
        sentence(11, "each other RUNNER (all, if there is no FLOUR): HUNGER is 1 more (9 at most);");
        LastLoaf z = of("person hunger 8 stands;person hunger 9 stands;person hunger 0 stands" + NO_GRIST);
        due(z, 2, "weeks", 1);
        due(z, 9, "person", 0, 0);
        due(z, 9, "person", 1, 0);
        due(z, 1, "person", 2, 0);
        LastLoaf w = of("person hunger 0 stands;person hunger 8 stands;person hunger 9 stands;flour 1" + NO_GRIST);
        due(w, 2, "weeks", 1);
        due(w, 0, "person", 0, 0);
        due(w, 9, "person", 1, 0);
        due(w, 9, "person", 2, 0);
    }

    private static void weekBench() {
        sentence(11, "(d) each not BENCHED whose HUNGER is 9, by numbers: it is BENCHED;");
        LastLoaf x = of("person hunger 8;person hunger 7;person hunger 8 stands;person hunger 7 stands" + NO_GRIST);
        due(x, 2, "weeks", 1);
        due(x, 5, "bench");
        due(x, 2, "log", 0, 2);
        due(x, 0, "log", 1, 2);
        due(x, 2, "weeks", 1);
        due(x, 15, "bench");
        due(x, 3, "log", 0, 2);
        due(x, 1, "log", 1, 2);
        due(x, 0, "weeks", 60);
        due(x, 4, "count", 11);
        sentence(11, "how many were BENCHED in these.");
        due(of(ONE), 0, "weeks", 60);
        due(of("person hunger 8" + NO_GRIST), 1, "weeks", 1);
        due(of("person hunger 8" + NO_GRIST), 1, "weeks", 60);
        due(of(times(6, "person hunger 9") + NO_GRIST), 6, "weeks", 1);
        due(new LastLoaf(), 0, "weeks", 60);
        sentence(11, "So many WEEKS more (1 to 60)");
        LastLoaf y = new LastLoaf();
        due(y, 0, "weeks", 1);
        due(y, 1, "count", 3);
        due(y, 0, "weeks", 60);
        due(y, 61, "count", 3);
        for (int n : new int[] {0, 61, -1, MOST, LEAST}) refused(() -> of(STARVING), ARGUMENT, "weeks", n);
    }

    /** A seed whose next DRAW has this rest by 100. */
    private static int seedFor(int rest) {
        for (int seed = 1; seed < 100000; seed++) if (drawn(seed) % 100 == rest) return seed;
        throw new IllegalStateException("no such seed");
    }

    private static int following(int seed) { return (int) (1103515245L * seed + 12345L); }
    private static int drawn(int seed) { return (int) ((following(seed) & 0xffffffffL) / 65536 % 32768); }

    private static void weekSpeech() {
        sentence(11, "(e) if DRAW modulo 100 is below SPEECH, and there are RUNNERS:");
        int[][] cases = {{0, 0, 0}, {0, 1, 1}, {99, 99, 0}, {99, 100, 1}, {37, 37, 0}, {37, 38, 1}};
        for (int[] c : cases) {
            LastLoaf x = of(STANDS + ";" + ONE + ";speech " + c[1]);
            x.seed(seedFor(c[0]));
            x.weeks(1);
            due(x, 5 + c[2], "likes", 1, 0);
        }
        LastLoaf none = of(ONE + ";" + ONE + ";speech 100");
        none.seed(3);
        none.weeks(1);
        due(none, following(3), "seed", 0);
        due(none, 5, "likes", 0, 1);
        due(none, 5, "likes", 1, 0);
        sentence(11, "of the RUNNERS that of the place DRAW modulo how many (the second DRAW just then):");
        for (int seed = 1; seed <= 40; seed++) {
            LastLoaf x = of(ONE + ";" + STANDS + ";person hunger 9 stands;" + STANDS + ";" + ONE + ";" + STANDS + ";speech 100");
            x.seed(seed);
            x.weeks(1);
            int[] runners = {1, 3, 5};
            int speaker = runners[drawn(following(seed)) % 3];
            for (int r : new int[] {1, 2, 3, 5}) due(x, r == speaker ? 6 : 5, "likes", 0, r);
            due(x, following(following(seed)), "seed", 0);
        }
        LastLoaf silent = of(STANDS + ";" + ONE);
        silent.seed(3);
        silent.weeks(1);
        due(silent, following(3), "seed", 0);
        sentence(11, "LIKES of it of all others is 1 more (9 at most).");
        LastLoaf y = of("person hunger 0 stands;person hunger 9 stands;" + ONE + ";" + ONE + ";speech 100;likes 2 0 8;likes 3 0 9;likes 0 2 1" + ";flour 1" + NO_GRIST);
        y.weeks(1);
        int[] liked = {0, 6, 9, 9};
        for (int p = 1; p < 4; p++) due(y, liked[p], "likes", p, 0);
        due(y, 1, "likes", 0, 2);
        due(y, 5, "likes", 0, 1);
        y.weeks(1);
        due(y, 9, "likes", 2, 0);
    }

    private static void draws() {
        sentence(60, "SEED is 1103515245 times SEED and 12345, as an int that goes round; bits 16 to 30 (SEED 1 at first).");
        LastLoaf x = of(ONE);
        int seed = 1;
        int below = 0;
        for (int i = 0; i < 20; i++) {
            x.weeks(1);
            seed = following(seed);
            due(x, seed, "seed", seed);
            if (seed < 0) below++;
        }
        same(below > 0 && below < 20, true, "it goes round both ways");
        for (int first : new int[] {0, -1, MOST, LEAST, 12345, -987654321}) {
            LastLoaf y = of(times(6, STANDS) + ";speech 50");
            y.seed(first);
            y.weeks(1);
            boolean speaks = drawn(first) % 100 < 50;
            int speaker = drawn(following(first)) % 6;
            for (int p = 0; p < 6; p++) due(y, speaks && p == speaker ? 6 : 5, "likes", p == 0 ? 1 : 0, p);
            due(y, speaks ? following(following(first)) : following(first), "seed", 0);
        }
        sentence(60, "SEED: what it was.");
        LastLoaf z = new LastLoaf();
        due(z, 1, "seed", MOST);
        due(z, MOST, "seed", LEAST);
        due(z, LEAST, "seed", 0);
        due(z, 0, "seed", -1);
        due(z, -1, "seed", 1);
        due(z, 0, "count", 12);
    }

    private static void lookingAhead() {
        sentence(55, "AHEAD by N WEEKS (0 to 60): as so many WEEKS without (e) (no DRAWS).");
        String village = "person hunger 2 stands;person hunger 7 stands;person hunger 0;likes 2 1 6;speech 100;flour 9;grist summer 0";
        LastLoaf silent = of(village.replace("speech 100", "speech 0"));
        for (int n = 0; n <= 60; n++) {
            LastLoaf x = of(village);
            String was = state(x);
            for (int p = 0; p < 3; p++) {
                due(x, silent.person(p, 0), "ahead", p, n, 0);
                due(x, silent.person(p, 5), "ahead", p, n, 1);
                due(x, silent.person(p, 4), "ahead", p, n, 2);
            }
            same(state(x), was, "nothing stays");
            silent.weeks(1);
        }
        sentence(55, "IllegalArgumentException: N is none (0 to 60); NoSuchElementException: another what.");
        for (int n : new int[] {-1, 61, MOST, LEAST}) refused(() -> of(STARVING), ARGUMENT, "ahead", 0, n, 0);
        for (int what : new int[] {-1, 3, MOST, LEAST}) refused(() -> of(STARVING), ELEMENT, "ahead", 0, 60, what);
        for (int p : new int[] {-1, 3, MOST, LEAST}) refused(() -> of(STARVING), PLACE, "ahead", p, 0, 0);
        sentence(23, "LEFT HUNGRY of a WAY and N (0 to 60): how many are BENCHED N WEEKS AHEAD, WAY being so from now on;");
        LastLoaf y = of(STARVING);
        due(y, 0, "hungry", 0, 0);
        due(y, 2, "hungry", 0, 1);
        due(y, 2, "hungry", 5, 8);
        due(y, 3, "hungry", 5, 9);
        due(y, 3, "hungry", 0, 60);
        due(baked(y, 1), 2, "hungry", 0, 0);
        due(y, 0, "count", 5);
        // By points 2 has it, by firsts 1 of two alike
        LastLoaf ways = of("person hunger 0;person hunger 8 stands;person hunger 8 stands;person hunger 8 stands;flour 9;likes 1 2 9;likes 3 2 9;likes 0 1 9;likes 0 2 8;likes 1 3 0");
        for (int way = 0; way < 6; way++) {
            LastLoaf told = of("person hunger 0;person hunger 8 stands;person hunger 8 stands;person hunger 8 stands;flour 9;likes 1 2 9;likes 3 2 9;likes 0 1 9;likes 0 2 8;likes 1 3 0");
            told.way(way);
            told.weeks(3);
            due(ways, Integer.bitCount(told.bench()), "hungry", way, 3);
        }
        sentence(24, "KINDEST of N: the WAY by which it is the least (of several the least).");
        due(of(STARVING), 0, "kindest", 0);
        due(of(STARVING), 0, "kindest", 60);
        due(new LastLoaf(), 0, "kindest", 60);
        // WAY 0 feeds 0, who starves nobody else; WAY 1 and on feed another one
        LastLoaf kind = kindVillage();
        int best = 0;
        for (int way = 1; way < 6; way++) if (kind.hungry(way, 1) < kind.hungry(best, 1)) best = way;
        same(best > 0, true, "another WAY is kinder");
        due(kind, best, "kindest", 1);
        due(kind, 0, "kindest", 0);
        sentence(25, "the WINNER by WAY as all is N WEEKS AHEAD; none.");
        LastLoaf z = of(STANDS + ";" + STANDS + ";flour 9", "spite 9 if had>0 and other<1");
        due(z, 0, "next", 0);
        due(z, 1, "next", 1);
        due(of(ONE), NONE, "next", 60);
        due(of("person hunger 8 stands" + NO_GRIST), 0, "next", 0);
        due(of("person hunger 8 stands" + NO_GRIST), NONE, "next", 1);
    }

    /** 0 has the most firsts, 1 is last for nobody: 1 starves but by other ways. */
    private static LastLoaf kindVillage() {
        return of("person hunger 1 stands;person hunger 8 stands;person hunger 1 stands;" + times(3, "person hunger 0")
                + ";likes 3 0 9;likes 3 1 8;likes 4 0 9;likes 4 1 8;likes 5 2 9;likes 5 1 8;flour 9", "abstain if standing");
    }

    private static void theLog() {
        sentence(59, "THE LOG: the latest 60 last loaves (0), ones BENCHED by a WEEK (1):");
        LastLoaf x = baked(of(STANDS), 59);
        due(x, 59, "count", 11);
        due(x, 0, "log", 58, 0);
        due(x, NONE, "log", 59, 0);
        x.weeks(1);
        due(x, 60, "count", 11);
        due(x, 0, "log", 59, 0);
        x.weeks(1);
        due(x, 60, "count", 11);
        due(x, 1, "log", 59, 0);
        due(x, 60, "log", 0, 0);
        x.weeks(59);
        due(x, 60, "log", 59, 0);
        due(x, 119, "log", 0, 0);
        x.weeks(2);
        due(x, 62, "log", 59, 0);
        due(x, 121, "log", 0, 0);
        sentence(59, "WEEK, 0 or 1, the person, how many VOTERS had it first in RANK (0 of 1).");
        LastLoaf y = of("person hunger 0 stands;person hunger 8 stands;person hunger 0;week 7;flour 9");
        y.weeks(1);
        int[][] rows = {{7, 1, 1, 0}, {7, 0, 0, 2}};
        for (int ago = 0; ago < 2; ago++) for (int what = 0; what < 4; what++) due(y, rows[ago][what], "log", ago, what);
        // They had it first ahead of the loaf, by its hunger
        due(baked(of("person hunger 7;person hunger 4 stands;person hunger 1 stands", "spite 20 if hunger<4"), 1), 3, "log", 0, 3);
        LastLoaf silent = baked(of(STANDS, "abstain"), 1);
        due(silent, 0, "log", 0, 3);
        due(silent, 1, "count", 11);
        sentence(59, "NONE without. NoSuchElementException: another what.");
        for (int ago : new int[] {2, 60, -1, MOST, LEAST}) for (int what = 0; what < 4; what++) due(y, NONE, "log", ago, what);
        for (int what : new int[] {4, -1, MOST, LEAST}) {
            refused(() -> baked(of(STANDS), 2), ELEMENT, "log", 0, what);
            refused(() -> baked(of(STANDS), 2), ELEMENT, "log", 60, what);
            refused(LastLoaf::new, ELEMENT, "log", -1, what);
        }
        sentence(58, "LED: how many rows of THE LOG are of a person; the WEEK of the latest (none).");
        due(x, 60, "led", 0, 0);
        due(x, 121, "led", 0, 1);
        due(y, 1, "led", 0, 0);
        due(y, 1, "led", 1, 0);
        due(y, 7, "led", 1, 1);
        due(y, 0, "led", 2, 0);
        due(y, NONE, "led", 2, 1);
        LastLoaf gone = of("person hunger 8 stands;person hunger 0 stands;likes 0 1 9;flour 99", "sway 9 if other>0");
        gone.weeks(1);
        due(gone, 0, "led", 0, 1);
        gone.weeks(58);
        due(gone, 1, "led", 0, 0);
        gone.weeks(1);
        due(gone, 1, "led", 0, 0);
        gone.weeks(1);
        due(gone, 0, "led", 0, 0);
        due(gone, NONE, "led", 0, 1);
    }

    // ---- ==== 3.

    private static void polls() {
        sentence(7, "VOTE of one: who is first in its RANK; none (of no VOTER, or without RUNNERS).");
        due(of(ONE), NONE, "person", 0, 7);
        due(of(STANDS, "abstain"), NONE, "person", 0, 7);
        due(of(ONE + ";" + STANDS), 1, "person", 0, 7);
        due(baked(of(STARVING), 1), NONE, "person", 1, 7);
        sentence(7, "VOTES of one: how many VOTERS have it first.");
        due(of(ONE + ";" + STANDS), 2, "person", 1, 8);
        due(of(ONE + ";" + STANDS), 0, "person", 0, 8);
        due(of(STANDS, "abstain"), 0, "person", 0, 8);
        sentence(7, "POINTS of one as WAY 2 counts (0 of no RUNNER).");
        due(of(ONE + ";" + STANDS), 0, "person", 0, 9);
        due(of(ONE + ";" + STANDS), 0, "person", 1, 9);
        due(of(times(6, STANDS)), 5 + 5 * 4, "person", 0, 9);
        due(of(times(6, STANDS)), 5, "person", 5, 9);
        due(baked(of(STARVING), 1), 0, "person", 0, 9);
        sentence(7, "DUELS of one: how many others it BEATS.");
        due(of(times(6, STANDS)), 5, "person", 0, 10);
        due(of(times(6, STANDS)), 0, "person", 5, 10);
        due(of(STANDS), 0, "person", 0, 10);
        sentence(22, "MASTER: the RUNNER that BEATS all others; none (also with none).");
        due(new LastLoaf(), NONE, "master");
        due(of(ONE), NONE, "master");
        due(of(times(6, STANDS)), 0, "master");
        due(of(STANDS + ";" + STANDS), NONE, "master");
        due(of(STANDS + ";" + STANDS + ";" + ONE + ";likes 2 1 6"), 1, "master");
        due(of(ONE + ";" + STANDS), 1, "master");
        due(voted("likes 3 0 9;likes 3 1 8;likes 4 1 9;likes 4 2 8;likes 5 2 9;likes 5 0 8"), NONE, "master");
    }

    private static void needs() {
        sentence(7, "so that it is the WINNER (by all others as they are; fewest from whomever)");
        LastLoaf x = of(times(2, STANDS) + ";" + times(4, ONE));
        due(x, 0, "person", 0, 11);
        due(x, 0, "woo", 0);
        // five for 0, one for 1: three must turn, as of three each 0 is the lesser
        due(x, 3, "person", 1, 11);
        due(x, 1 | 4 | 8, "woo", 1);
        LastLoaf back = of(times(2, STANDS) + ";" + times(4, ONE), "sway 20 if other>0");
        // six for 1: three are enough for 0
        due(back, 3, "person", 0, 11);
        due(back, 7, "woo", 0);
        sentence(7, "none, if it is no RUNNER, or no set of VOTERS does.");
        due(x, NONE, "person", 2, 11);
        due(of(STANDS + ";" + STANDS, "abstain"), NONE, "person", 1, 11);
        due(of(STANDS + ";" + STANDS, "abstain"), 0, "person", 0, 11);
        due(of(STANDS + ";" + STANDS, "abstain if voter>0"), 1, "person", 1, 11);
        due(baked(of(STARVING), 1), NONE, "person", 0, 11);
        sentence(26, "WON OVER, as bits; NONE, if NEEDED is none.");
        due(x, NONE, "woo", 2);
        due(of(STANDS + ";" + STANDS, "abstain"), NONE, "woo", 1);
        due(of(STANDS + ";" + STANDS, "abstain"), 0, "woo", 0);
        due(of(STANDS + ";" + STANDS, "abstain if voter>0"), 1, "woo", 1);
        sentence(26, "WON OVER: the first such set of VOTERS (the least as bits of the fewest).");
        LastLoaf tie = of(STANDS + ";" + STANDS + ";" + ONE + ";" + ONE + ";" + ONE + ";likes 4 1 9", "abstain if standing");
        // 0 and 1 for 2, 3 for 1, 4 and 5 for 0: one of the latter does for 1 what two of the first do
        LastLoaf fewest = of(times(3, STANDS) + ";" + times(3, ONE), "abstain if voter>1 and voter<3;sway 20 if voter<2 and other>1;"
                + "sway 20 if voter>2 and voter<4 and other>0 and other<2;sway 20 if voter>3 and other<1");
        due(fewest, 16, "woo", 1);
        // 2 and 3 for 0, 4 for 1: one of 2, 3
        due(tie, 4, "woo", 1);
        due(tie, 0, "woo", 0);
    }

    private static void orders() {
        sentence(27, "who BEATS the other one (else the one who was there) meets the next one, and on: who can be the last one so by some order: as bits;");
        due(new LastLoaf(), 0, "orders");
        due(of(ONE), 0, "orders");
        due(of(ONE + ";" + STANDS), 2, "orders");
        due(of(STANDS + ";" + STANDS), 3, "orders");
        due(of(times(6, STANDS)), 1, "orders");
        due(of(times(6, STANDS), "abstain"), 63, "orders");
        sentence(28, "ORDER of one: the first order by which it is (by the first unlike one, the lesser): the k-th of it; none.");
        LastLoaf x = of(times(6, STANDS), "abstain");
        int[] order = {3, 0, 1, 2, 4, 5};
        for (int k = 0; k < 6; k++) due(x, order[k], "order", 3, k);
        for (int k : new int[] {6, -1, MOST, LEAST}) due(x, NONE, "order", 3, k);
        LastLoaf beaten = of(times(6, STANDS));
        for (int k = 0; k < 6; k++) {
            due(beaten, k, "order", 0, k);
            due(beaten, NONE, "order", 1, k);
        }
        due(of(ONE + ";" + STANDS), 1, "order", 1, 0);
        due(of(ONE + ";" + STANDS), NONE, "order", 1, 1);
        due(of(ONE + ";" + STANDS), NONE, "order", 0, 0);
        LastLoaf two = of(STANDS + ";" + STANDS);
        due(two, 1, "order", 1, 0);
        due(two, 0, "order", 1, 1);
    }

    private static void turns() {
        sentence(29, "TURNS of N (0 to 5)");
        LastLoaf x = of(times(5, "person hunger 8 stands") + ";person hunger 3 stands");
        due(x, 0, "rota", 0, NONE);
        due(x, 4, "rota", 1, NONE);
        due(x, 0, "rota", 1, 0);
        due(x, 4, "rota", 5, NONE);
        for (int n : new int[] {-1, 6, MOST, LEAST}) {
            refused(() -> of(STARVING), ARGUMENT, "rota", n, NONE);
            refused(() -> of(STARVING), ARGUMENT, "rota", n, 0);
        }
        sentence(29, "(who is not BENCHED then, in place of (c)'s WINNER; to nobody, too)");
        // 0 starves in the first week whatever is done, as the flour is 1's
        LastLoaf y = of("person hunger 8 stands;person hunger 0;flour 1" + NO_GRIST);
        due(y, 1, "rota", 1, NONE);
        due(y, NONE, "rota", 1, 0);
        due(baked(of(STARVING), 1), 2, "rota", 5, NONE);
        due(baked(of(STARVING), 1), NONE, "rota", 5, 0);
        // One loaf in two weeks, and 1 must have it in the second one
        LastLoaf z = of("person hunger 0 stands;person hunger 7 stands;flour 1" + NO_GRIST);
        due(z, 0, "rota", 2, NONE);
        due(z, NONE, "rota", 2, 0);
        due(z, 1, "rota", 2, 1);
        sentence(29, "whom the K-TH WEEK feeds in the first such row (WEEK by WEEK, nobody being the least, then the RUNNERS); none.");
        LastLoaf w = of("person hunger 7 stands;person hunger 8 stands;grist spring 1;grist summer 1");
        due(w, 1, "rota", 2, 0);
        due(w, 0, "rota", 2, 1);
        for (int k : new int[] {2, 5, -2, MOST, LEAST}) due(w, NONE, "rota", 2, k);
        due(w, NONE, "rota", 0, 0);
        due(of(STANDS), NONE, "rota", 5, 4);
        due(of(ONE), NONE, "rota", 5, 0);
        due(of("person hunger 8 stands;person hunger 8 stands"), 0, "rota", 1, 0);
        due(of("person hunger 4 stands"), 0, "rota", 5, 4);
        due(of("person hunger 4 stands"), NONE, "rota", 5, 3);
        due(of("person hunger 4 stands"), NONE, "rota", 4, 3);
        due(of("person hunger 4 stands"), 0, "rota", 5, NONE);
        due(baked(of(STARVING), 1), 2, "rota", 0, NONE);
        due(baked(of(STARVING), 9), 3, "rota", 0, NONE);
        // Flour comes in summer alone, when 0 would starve
        LastLoaf seasons = of("person hunger 7 stands;grist spring 0;grist summer 1;grist autumn 0;grist winter 0");
        due(seasons, 0, "rota", 5, NONE);
        int[] fed = {NONE, 0, NONE, NONE, NONE};
        for (int k = 0; k < 5; k++) due(seasons, fed[k], "rota", 5, k);
        // WEEK goes no further than 9999, of winter
        LastLoaf late = baked(of("person hunger 4 stands;grist winter 0;grist autumn 0;week 999"), 8999);
        while (late.count(4) > 0) late.weeks(1);
        due(late, 9999, "count", 3);
        int hunger = late.person(0, 0);
        due(late, hunger + 5 >= 9 ? 1 : 0, "rota", 5, NONE);
        for (int k = 0; k < 5; k++) due(late, NONE, "rota", 5, k);
        // What is not given is there in the next week, and what was eaten is not
        LastLoaf kept = of("person hunger 8 stands;person hunger 7 stands;person hunger 6 stands;flour 2" + NO_GRIST);
        due(kept, 1, "rota", 3, NONE);
        int[] eaten = {NONE, 1, 2};
        for (int k = 0; k < 3; k++) due(kept, eaten[k], "rota", 3, k);
        LastLoaf first = of("person hunger 8;person hunger 8 stands;person hunger 0;flour 2" + NO_GRIST);
        due(first, 1, "rota", 1, NONE);
        due(first, NONE, "rota", 1, 0);
        due(of("person hunger 8;person hunger 8 stands;person hunger 0;flour 3" + NO_GRIST), 1, "rota", 1, 0);
        sentence(29, "how many are BENCHED (k NONE), or whom the K-TH WEEK (from 0 on) feeds; NONE.");
        due(of(times(6, "person hunger 9") + NO_GRIST), 6, "rota", 1, NONE);
        due(new LastLoaf(), 0, "rota", 5, NONE);
        due(new LastLoaf(), NONE, "rota", 5, 0);
    }

    private static void flourLasts() {
        sentence(30, "LASTS: the first N (0 to 60) AHEAD by which FLOUR is 0; none.");
        due(of(ONE), 0, "lasts");
        due(of(ONE + ";flour 1" + NO_GRIST), 1, "lasts");
        due(of(ONE + ";flour 60" + NO_GRIST), 60, "lasts");
        due(of(ONE + ";flour 61" + NO_GRIST), NONE, "lasts");
        due(of("flour 1"), NONE, "lasts");
        due(of("flour 1" + NO_GRIST), NONE, "lasts");
        sentence(31, "MILL of N (1 to 60): the least GRIST (0 to 99), the same in all SEASONS in place of those, by which nobody is BENCHED in N WEEKS AHEAD who is not now; none.");
        due(of("person hunger 7" + NO_GRIST), 0, "mill", 1);
        due(of("person hunger 8" + NO_GRIST), 1, "mill", 1);
        due(of("person hunger 0"), 0, "mill", 8);
        due(of("person hunger 0"), 1, "mill", 9);
        due(of("person hunger 0"), 1, "mill", 60);
        due(of(times(6, "person hunger 9")), 6, "mill", 60);
        due(of(times(5, "person hunger 9") + ";person hunger 9 stands"), 6, "mill", 60);
        due(of("person hunger 9 stands;person hunger 9 stands"), NONE, "mill", 1);
        due(of("person hunger 9 stands;person hunger 0 stands;likes 0 1 9", "sway 9 if other>0"), NONE, "mill", 1);
        due(baked(of(STARVING), 1), 0, "mill", 7);
        due(baked(of(STARVING), 1), 1, "mill", 60);
        due(new LastLoaf(), 0, "mill", 60);
        for (int n : new int[] {0, 61, -1, MOST, LEAST}) refused(() -> of(STARVING), ARGUMENT, "mill", n);
        sentence(32, "STARVES: the first N (1 to 60) AHEAD by which somebody more is BENCHED; none; who (the least).");
        due(of("person hunger 9" + NO_GRIST), 1, "starves", 0);
        due(of("person hunger 8" + NO_GRIST), 1, "starves", 0);
        due(of("person hunger 0;flour 51" + NO_GRIST), 60, "starves", 0);
        due(of("person hunger 0;flour 51" + NO_GRIST), 0, "starves", 1);
        due(of("person hunger 0;flour 52" + NO_GRIST), NONE, "starves", 0);
        due(of("person hunger 0;flour 52" + NO_GRIST), NONE, "starves", 1);
        due(of(STARVING), 0, "starves", 1);
        due(of("person hunger 0;person hunger 8;person hunger 8" + NO_GRIST), 1, "starves", 1);
        due(baked(of(STARVING), 1), 2, "starves", 1);
        due(baked(of(STARVING), 1), 8, "starves", 0);
        due(baked(of(STARVING), 9), NONE, "starves", 0);
        due(baked(of(STARVING), 9), NONE, "starves", 1);
    }

    private static byte[] rows(int... bytes) {
        byte[] b = new byte[bytes.length];
        for (int i = 0; i < b.length; i++) b[i] = (byte) bytes[i];
        return b;
    }

    private static void told(LastLoaf x, long want, String name, byte[] rows, int... args) {
        tell(x, rows);
        due(x, want, name, args);
        due(x, 0, "end", 1);
    }

    /** Six who stand, of whom each likes just so many that there are so many ways for it. */
    private static LastLoaf choosing(int... choices) {
        LastLoaf x = of(times(6, STANDS));
        for (int p = 0; p < 6; p++) {
            int left = choices[p] - 1;
            for (int q = 0; q < 6; q++) if (p != q) x.like(p, q, left-- > 0 ? 4 : 3);
        }
        return x;
    }

    private static void ballotCounts() {
        sentence(33, "each VOTER may have voted for any RUNNER whom it LIKES 4 at least (or itself);");
        LastLoaf x = of(STANDS + ";" + STANDS + ";likes 0 1 4;likes 1 0 3");
        told(x, 2, "ballots", rows());
        x.like(0, 1, 3);
        told(x, 1, "ballots", rows());
        LastLoaf none = of(ONE + ";" + STANDS + ";likes 0 1 3");
        told(none, 0, "ballots", rows());
        told(none, NONE, "sure", rows(), 1);
        told(none, NONE, "ask", rows());
        sentence(33, "in how many ways that may be (9999 at most);");
        told(choosing(6, 6, 6, 5, 3, 3), 9720, "ballots", rows());
        told(choosing(5, 5, 5, 5, 4, 4), 9999, "ballots", rows());
        told(choosing(6, 6, 6, 6, 6, 6), 9999, "ballots", rows());
        told(choosing(6, 6, 6, 6, 6, 1), 7776, "ballots", rows());
        told(choosing(1, 1, 1, 1, 1, 1), 1, "ballots", rows());
        sentence(33, "RUNNERS not told had any number:");
        told(choosing(6, 6, 6, 6, 6, 6), 9999, "ballots", rows(0, 1));
        told(choosing(6, 6, 6, 6, 6, 6), 9999, "ballots", rows(0, 0));
        told(choosing(6, 6, 6, 6, 6, 6), 1, "ballots", rows(0, 6));
        told(choosing(6, 6, 6, 6, 6, 6), 30, "ballots", rows(5, 5));
        told(choosing(6, 6, 6, 6, 6, 6), 90, "ballots", rows(0, 2, 1, 2, 2, 2, 3, 0, 4, 0, 5, 0));
        told(choosing(6, 6, 6, 6, 6, 6), 720, "ballots", rows(0, 1, 1, 1, 2, 1, 3, 1, 4, 1, 5, 1));
        told(choosing(6, 6, 6, 6, 6, 6), 720, "ballots", rows(0, 1, 1, 1, 2, 1, 3, 1, 4, 1));
        told(choosing(6, 6, 6, 6, 6, 6), 60, "ballots", rows(0, 3, 1, 2, 2, 1));
        LastLoaf middle = of(times(5, STANDS), "abstain if voter>1 and voter<3");
        // Four voters of five choices each: two for 0, one for 4, one for another one
        told(middle, 12 * 3, "ballots", rows(0, 2, 4, 1));
        told(middle, 0, "ballots", rows(0, 2, 4, 3));
        told(middle, 6, "ballots", rows(0, 2, 4, 2));
        told(middle, NONE, "sure", rows(0, 4), 2);
        told(middle, 0, "sure", rows(0, 4), 3);
        sentence(33, "a RUNNER and how many votes it had (0 to 6);");
        told(choosing(6, 6, 6, 6, 6, 6), 1, "ballots", rows(5, 6));
        told(choosing(6, 6, 6, 6, 6, 6), 0, "ballots", rows(5, 6, 4, 1));
        told(choosing(6, 6, 6, 6, 6, 6), 0, "ballots", rows(0, 6, 1, 6, 2, 6, 3, 6, 4, 6, 5, 6));
        for (int votes : new int[] {7, 8, 128, 255}) refused(() -> of(STANDS), rows(0, votes), true, ARGUMENT, "ballots");
        for (int runner : new int[] {1, 6, 128, 255}) refused(() -> of(STANDS + ";" + ONE), rows(runner, 0), true, ARGUMENT, "ballots");
        refused(() -> baked(of(STARVING), 1), rows(0, 0), true, ARGUMENT, "ballots");
        told(baked(of(STARVING), 1), 1, "ballots", rows(2, 1));
        sentence(34, "SURE of a VOTER: for whom it voted in all of them; none;");
        LastLoaf two = of(STANDS + ";" + STANDS + ";" + ONE + ";likes 0 1 3;likes 1 0 3");
        told(two, 0, "sure", rows(), 0);
        told(two, NONE, "sure", rows(), 2);
        told(two, 1, "sure", rows(1, 2), 2);
        told(two, 0, "sure", rows(1, 1), 2);
        sentence(34, "NONE (of no VOTER, and without ways, too).");
        told(two, NONE, "sure", rows(1, 3), 0);
        told(two, NONE, "sure", rows(1, 1, 1, 2), 0);
        told(of(STANDS, "abstain"), NONE, "sure", rows(), 0);
        told(of(ONE), NONE, "sure", rows(), 0);
        sentence(35, "so that the greatest part is the least (of several the least; none with fewer than two ways).");
        told(two, 2, "ask", rows());
        told(two, NONE, "ask", rows(1, 1));
        told(two, NONE, "ask", rows(1, 3));
        told(choosing(6, 6, 6, 6, 6, 6), 0, "ask", rows());
        told(choosing(1, 2, 6, 6, 5, 5), 2, "ask", rows());
        told(choosing(1, 1, 1, 1, 1, 2), 5, "ask", rows());
        told(new LastLoaf(), NONE, "ask", rows());
    }

    private static void ballotTapes() {
        sentence(33, "Uses the TAPE up: BALLOTS (of each two bytes: the RUNNER, how many; at most 40 bytes): in how many ways. IllegalArgumentException: the TAPE is not that (none may be told).");
        told(of(STANDS), 1, "ballots", rows());
        told(of(STANDS), 1, "ballots", rows(0, 1));
        byte[] forty = new byte[40];
        for (int i = 1; i < 40; i += 2) forty[i] = 1;
        told(of(STANDS), 1, "ballots", forty);
        told(of(STANDS), 0, "ballots", new byte[40]);
        byte[] more = java.util.Arrays.copyOf(forty, 42);
        more[41] = 1;
        for (byte[] bad : new byte[][] {rows(0), rows(0, 1, 0), java.util.Arrays.copyOf(forty, 39), java.util.Arrays.copyOf(forty, 41), more, new byte[400]}) {
            refused(() -> of(STANDS), bad, true, ARGUMENT, "ballots");
            refused(() -> of(STANDS), bad, true, ARGUMENT, "sure", 0);
            refused(() -> of(STANDS), bad, true, ARGUMENT, "ask");
        }
        sentence(34, "Uses the TAPE up: SURE (the TAPE likewise);");
        told(of(STANDS), 0, "sure", forty, 0);
        refused(() -> of(STANDS), rows(0, 1), true, PLACE, "sure", 1);
        refused(() -> of(STANDS), rows(0, 1), true, PLACE, "sure", -1);
        refused(() -> of(STANDS), rows(0, 1), true, PLACE, "sure", MOST);
        refused(() -> of(STANDS), rows(0, 1), true, PLACE, "sure", LEAST);
        refused(() -> of(STANDS), rows(0, 7), true, ARGUMENT, "sure", 0);
        refused(() -> of(STANDS), rows(0, 7), true, PLACE, "sure", 1);
        sentence(35, "Uses the TAPE up: ASK (the TAPE likewise); NONE.");
        told(of(STANDS), NONE, "ask", forty);
        refused(() -> of(STANDS), rows(0, 7), true, ARGUMENT, "ask");
        refused(() -> of(STANDS), rows(1, 0), true, ARGUMENT, "ask");
    }

    private static void houses() {
        sentence(36, "if there are more in it than of all others not BENCHED together, each counted 1, and 1 more, if HAD is above 0.");
        LastLoaf x = of(STANDS + ";" + ONE + ";" + ONE + ";" + ONE);
        due(x, 0, "carries", 3);
        due(x, 1, "carries", 7);
        x.weeks(1);
        // 2, 1, 1, 1
        due(x, 1, "carries", 3);
        due(x, 0, "carries", 6);
        due(x, 1, "carries", 14);
        due(x, 0, "carries", 0);
        due(x, 0, "carries", 1);
        sentence(36, "(others than PEOPLE not BENCHED count for nothing)");
        due(x, 0, "carries", 16 | 32 | 1);
        due(x, 0, "carries", ~15);
        due(x, 1, "carries", MOST);
        due(x, 1, "carries", -1);
        due(x, 0, "carries", LEAST);
        due(baked(of(STARVING), 1), 1, "carries", 4);
        due(baked(of(STARVING), 1), 0, "carries", 3);
        due(baked(of(STARVING), 1), 1, "carries", 7);
        due(baked(of(STARVING), 9), 0, "carries", 7);
        due(new LastLoaf(), 0, "carries", -1);
        sentence(37, "SWINGS (0 of one BENCHED).");
        due(baked(of(STARVING), 1), 0, "swings", 0);
        due(baked(of(STARVING), 1), 1, "swings", 2);
        due(baked(of(STARVING), 9), 0, "swings", 2);
        due(x, 6, "swings", 0);
        due(x, 2, "swings", 1);
        due(of(ONE), 1, "swings", 0);
        due(of(ONE + ";" + ONE), 1, "swings", 1);
        sentence(38, "SMALLEST: the fewest PEOPLE in a HOUSE that CARRIES: of several the least as bits; none.");
        due(new LastLoaf(), NONE, "smallest");
        due(baked(of(STARVING), 9), NONE, "smallest");
        due(baked(of(STARVING), 1), 4, "smallest");
        due(of(ONE), 1, "smallest");
        due(of(ONE + ";" + ONE), 3, "smallest");
        due(of(times(3, ONE)), 3, "smallest");
        due(of(times(6, ONE)), 15, "smallest");
        due(x, 3, "smallest");
        // 1, 1, 1, 2, 2: the last two alone
        LastLoaf late = of(times(3, ONE) + ";" + STANDS + ";" + STANDS + ";flour 9", "spite 9 if had>0");
        late.weeks(2);
        due(late, 24, "smallest");
        sentence(39, "BLOC of a PARTY (0 to 2): what its PEOPLE not BENCHED count together.");
        due(x, 5, "bloc", 2);
        due(x, 0, "bloc", 0);
        due(baked(of(STARVING), 1), 1, "bloc", 2);
        due(of("person hunger 1 party crumb"), 1, "bloc", 1);
        for (int party : new int[] {-1, 3, MOST, LEAST}) refused(() -> of(STARVING), PLACE, "bloc", party);
        sentence(40, "KINGMAKER: who SWINGS the most (of several the least; none).");
        due(new LastLoaf(), NONE, "kingmaker");
        due(of(times(6, ONE)), 0, "kingmaker");
        due(of(ONE + ";" + ONE + ";" + STANDS), 0, "kingmaker");
        due(baked(of(ONE + ";" + ONE + ";" + STANDS), 1), 2, "kingmaker");
        due(baked(of(STARVING), 1), 2, "kingmaker");
        due(baked(of(STARVING), 9), NONE, "kingmaker");
    }

    private static void couplesAndCamps() {
        sentence(41, "each in one such pair at most, so that FRIENDS of all pairs together are the most: how much;");
        due(new LastLoaf(), 0, "couples", NONE);
        due(of(ONE), 0, "couples", NONE);
        due(of(ONE + ";" + ONE), 10, "couples", NONE);
        due(of(times(3, ONE)), 10, "couples", NONE);
        due(of(times(6, ONE)), 30, "couples", NONE);
        due(of(ONE + ";" + ONE + ";likes 0 1 9;likes 1 0 9"), 18, "couples", NONE);
        sentence(41, "with whom one is in the first such way (one by one, none being the least, then the others); none.");
        due(of(ONE), NONE, "couples", 0);
        int[] three = {NONE, 2, 1};
        for (int p = 0; p < 3; p++) due(of(times(3, ONE)), three[p], "couples", p);
        int[] six = {1, 0, 3, 2, 5, 4};
        for (int p = 0; p < 6; p++) due(of(times(6, ONE)), six[p], "couples", p);
        LastLoaf none = of(ONE + ";" + ONE + ";likes 0 1 0;likes 1 0 0");
        due(none, NONE, "couples", 0);
        due(none, NONE, "couples", 1);
        LastLoaf mixed = of(times(5, ONE) + ";likes 0 3 9;likes 3 0 9;likes 1 4 9;likes 4 1 8;likes 2 3 8");
        int[] pairs = {3, 4, NONE, 0, 1};
        for (int p = 0; p < 5; p++) due(mixed, pairs[p], "couples", p);
        due(mixed, 35, "couples", NONE);
        due(baked(of(STARVING), 1), NONE, "couples", 0);
        due(baked(of(STARVING), 1), 2, "couples", 1);
        for (int p : new int[] {-2, 3, MOST, LEAST}) refused(() -> of(STARVING), PLACE, "couples", p);
        sentence(42, "those of the second camp (0 is of the first), of several the least as bits; none with fewer than two.");
        due(new LastLoaf(), NONE, "camps");
        due(of(ONE), NONE, "camps");
        due(of(ONE + ";" + ONE), 2, "camps");
        due(of(times(3, ONE)), 2, "camps");
        due(of(times(6, ONE)), 2, "camps");
        // 0 is alone, as nobody likes it
        due(of(times(3, ONE) + ";likes 1 0 0;likes 2 0 0"), 6, "camps");
        due(of(times(4, ONE) + ";likes 0 1 0;likes 1 0 0;likes 0 2 0;likes 2 0 0;likes 3 1 0;likes 1 3 0;likes 3 2 0;likes 2 3 0"), 6, "camps");
        due(of(times(6, ONE) + ";likes 5 0 0;likes 5 1 0;likes 5 2 0;likes 5 3 0;likes 5 4 0"), 32, "camps");
    }

    private static void table() {
        sentence(43, "(both ways round, each pair once; of two PEOPLE once; 0 of one)");
        due(new LastLoaf(), 0, "table", NONE);
        due(of(ONE), 0, "table", NONE);
        due(of(ONE + ";" + ONE), 10, "table", NONE);
        due(of(times(3, ONE)), 30, "table", NONE);
        due(of(times(6, ONE)), 60, "table", NONE);
        due(of(ONE + ";" + ONE + ";likes 0 1 0;likes 1 0 0"), 0, "table", NONE);
        sentence(43, "SEAT: the k-th of the first such order (by the first unlike one, the lesser); none.");
        due(new LastLoaf(), NONE, "table", 0);
        due(of(ONE), 0, "table", 0);
        due(of(ONE), NONE, "table", 1);
        LastLoaf x = of(times(6, ONE));
        for (int k = 0; k < 6; k++) due(x, k, "table", k);
        for (int k : new int[] {6, -2, MOST, LEAST}) due(x, NONE, "table", k);
        // 0 and 1 sit apart, and so the lesser of the two orders begins with 2
        LastLoaf apart = of(times(4, ONE) + ";likes 0 1 0");
        int[] seats = {0, 2, 1, 3};
        for (int k = 0; k < 4; k++) due(apart, seats[k], "table", k);
        due(baked(of(STARVING), 9), 30, "table", NONE);
    }

    private static void slices() {
        sentence(44, "SLICES of N (0 to 999): shared by HUNGER: N times HUNGER by that of all, rounded down;");
        LastLoaf x = of("person hunger 9;person hunger 0;person hunger 9");
        due(x, 0, "slices", 0, 0);
        due(x, 1, "slices", 0, 2);
        due(x, 0, "slices", 1, 2);
        due(x, 500, "slices", 0, 999);
        due(x, 0, "slices", 1, 999);
        due(x, 499, "slices", 2, 999);
        due(of("person hunger 1"), 999, "slices", 0, 999);
        for (int n : new int[] {-1, 1000, MOST, LEAST}) refused(() -> of(STARVING), ARGUMENT, "slices", 0, n);
        for (int p : new int[] {-1, 3, MOST, LEAST}) refused(() -> of(STARVING), PLACE, "slices", p, 0);
        sentence(44, "what is left 1 each from the least numbers on (0 of each, if nobody is hungry): of one.");
        LastLoaf y = of("person hunger 1;person hunger 1;person hunger 1;person hunger 1");
        int[] shares = {2, 2, 2, 1};
        for (int p = 0; p < 4; p++) due(y, shares[p], "slices", p, 7);
        LastLoaf full = of("person hunger 0;person hunger 0");
        due(full, 0, "slices", 0, 999);
        due(full, 0, "slices", 1, 999);
        due(full, 0, "slices", 0, 0);
        due(baked(of(STARVING), 1), 474, "slices", 0, 999);
    }

    private static void passingOn() {
        sentence(7, "the other one not BENCHED of the greatest LIKES and HUNGER together (of several the least; none).");
        due(of(ONE), NONE, "person", 0, 13);
        due(of(ONE + ";" + ONE), 1, "person", 0, 13);
        due(of(times(4, ONE)), 1, "person", 0, 13);
        due(of(times(4, ONE)), 0, "person", 1, 13);
        due(of("person hunger 1;person hunger 1;person hunger 3;likes 0 1 7"), 1, "person", 0, 13);
        due(of("person hunger 1;person hunger 1;person hunger 3;likes 0 1 6"), 2, "person", 0, 13);
        due(of("person hunger 0;person hunger 0;likes 0 1 0"), 1, "person", 0, 13);
        due(baked(of(STARVING), 1), NONE, "person", 2, 13);
        due(baked(of(STARVING), 1), 2, "person", 0, 13);
        sentence(45, "RING of one: whether from one to whom it WOULD PASS, on and on, one comes back to it.");
        due(of(ONE), 0, "ring", 0);
        due(of(ONE + ";" + ONE), 1, "ring", 0);
        LastLoaf x = of(times(6, ONE) + ";likes 0 1 9;likes 1 2 9;likes 2 3 9;likes 3 4 9;likes 4 5 9;likes 5 0 9");
        for (int p = 0; p < 6; p++) due(x, 1, "ring", p);
        x.like(5, 1, 9);
        x.like(5, 0, 0);
        due(x, 0, "ring", 0);
        for (int p = 1; p < 6; p++) due(x, 1, "ring", p);
        due(baked(of(STARVING), 1), 0, "ring", 2);
        due(baked(of(STARVING), 1), 0, "ring", 0);
        sentence(17, "(its HUNGER is 1, of another one, who is not BENCHED, 0, and that one LIKES it 1 more, 9 at most)");
        LastLoaf y = of("person hunger 0;person hunger 9;likes 1 0 8");
        due(y, 9, "pass", 0, 1);
        due(y, 1, "person", 0, 0);
        due(y, 0, "person", 1, 0);
        due(y, 5, "likes", 0, 1);
        due(y, 6, "pass", 1, 0);
        due(y, 9, "pass", 0, 1);
        due(of("person hunger 0;person hunger 0;likes 1 0 0"), 1, "pass", 0, 1);
        sentence(17, "IllegalArgumentException: both are one; IllegalStateException: the first one has HUNGER, or one of both is BENCHED.");
        refused(() -> of("person hunger 1;person hunger 0"), STATE, "pass", 0, 1);
        refused(() -> of("person hunger 9;person hunger 0"), STATE, "pass", 0, 1);
        refused(() -> of("person hunger 0;person hunger 0"), ARGUMENT, "pass", 0, 0);
        refused(() -> baked(of("person hunger 9;person hunger 9;person hunger 9;flour 1" + NO_GRIST), 1), STATE, "pass", 0, 1);
        refused(() -> baked(of("person hunger 9;person hunger 9;person hunger 9;flour 1" + NO_GRIST), 1), STATE, "pass", 1, 0);
        refused(() -> baked(of("person hunger 9;person hunger 9;person hunger 9;flour 1" + NO_GRIST), 1), STATE, "pass", 1, 2);
        sentence(18, "one is fetched from the bench (HUNGER 5)");
        LastLoaf z = baked(of(STARVING), 1);
        due(z, 1, "fetch", 0);
        due(z, 5, "person", 0, 0);
        due(z, 0, "person", 0, 4);
        due(z, 1, "person", 0, 3);
        due(z, 5, "count", 8);
        due(z, 0, "fetch", 1);
        due(z, 0, "bench");
        sentence(18, "IllegalStateException: it is not BENCHED.");
        refused(() -> of(STARVING), STATE, "fetch", 0);
        refused(() -> baked(of(STARVING), 1), STATE, "fetch", 2);
        for (int p : new int[] {-1, 3, MOST, LEAST}) refused(() -> of(STARVING), PLACE, "fetch", p);
    }

    private static void rests() {
        sentence(46, "choices (2 times the RUNNER's and the other one's) from which neither would have more by its other one: as bits.");
        // heckled -5 to 4 against 0; heckling 9 to 0 against 1
        for (int liking = 0; liking <= 9; liking++) {
            for (int skin = 0; skin <= 9; skin++) {
                LastLoaf x = of(STANDS + ";person hunger 1 skin " + skin + ";likes 1 0 " + liking + ";likes 0 1 " + (9 - liking));
                int bits = 0;
                if (liking >= 5 && skin <= 8) bits |= 1;
                if (skin >= 8) bits |= 2;
                due(x, bits, "rests", 0, 1);
            }
        }
        sentence(46, "IllegalArgumentException: both are one; IllegalStateException: the first one is no RUNNER.");
        refused(() -> of(STANDS + ";" + ONE), ARGUMENT, "rests", 0, 0);
        refused(() -> of(STANDS + ";" + ONE), ARGUMENT, "rests", 1, 1);
        refused(() -> of(STANDS + ";" + ONE), STATE, "rests", 1, 0);
        refused(() -> baked(of(STARVING), 1), STATE, "rests", 0, 2);
        due(baked(of(STARVING), 1), 1, "rests", 2, 0);
    }

    private static void odds() {
        sentence(47, "ODDS of N WEEKS (0 to 6) and K (0 to 6): that there is a speech in K of them at least, each alike, in ten thousandths, rounded down.");
        LastLoaf x = of("speech 1");
        due(x, 10000, "odds", 0, 0);
        due(x, 10000, "odds", 6, 0);
        due(x, 100, "odds", 1, 1);
        due(x, 199, "odds", 2, 1);
        due(x, 1, "odds", 2, 2);
        due(x, 0, "odds", 3, 3);
        due(x, 0, "odds", 6, 6);
        due(x, 0, "odds", 0, 1);
        due(x, 0, "odds", 5, 6);
        due(of("speech 100"), 10000, "odds", 6, 6);
        due(of("speech 100"), 0, "odds", 5, 6);
        due(of("speech 0"), 0, "odds", 6, 1);
        due(of("speech 0"), 10000, "odds", 6, 0);
        due(of("speech 99"), 9414, "odds", 6, 6);
        due(of("speech 99"), 9999, "odds", 2, 1);
        due(of("speech 99"), 9999, "odds", 6, 1);
        for (int n : new int[] {-1, 7, MOST, LEAST}) {
            refused(() -> of("speech 7"), ARGUMENT, "odds", n, 0);
            refused(() -> of("speech 7"), ARGUMENT, "odds", 0, n);
        }
    }

    private static void namedOnes() {
        sentence(48, "HUNGRIEST: of those not BENCHED (of several the least; none).");
        due(new LastLoaf(), NONE, "hungriest");
        due(of("person hunger 0"), 0, "hungriest");
        due(of("person hunger 2;person hunger 3;person hunger 3"), 1, "hungriest");
        due(of("person hunger 2;person hunger 9"), 1, "hungriest");
        due(baked(of(STARVING), 1), 2, "hungriest");
        due(baked(of(STARVING), 9), NONE, "hungriest");
        sentence(49, "LOVED: whom all others LIKE the most together (of several the least; none).");
        due(new LastLoaf(), NONE, "loved");
        due(of(times(6, ONE)), 0, "loved");
        due(of(times(3, ONE) + ";likes 1 0 4"), 1, "loved");
        due(of(times(3, ONE) + ";likes 1 2 6"), 2, "loved");
        due(of(ONE + ";" + ONE + ";likes 0 1 0;likes 1 0 0"), 0, "loved");
        due(baked(of(STARVING), 9), 0, "loved");
        sentence(50, "THICK: who has a RUN of 2 at least and SKIN 0, as bits.");
        LastLoaf x = of(STANDS);
        due(x, 0, "thick");
        due(baked(x, 1), 0, "thick");
        due(baked(x, 1), 1, "thick");
        due(baked(x, 60), 1, "thick");
        due(baked(of("person hunger 1 skin 1 stands"), 2), 0, "thick");
        due(new LastLoaf(), 0, "thick");
        sentence(51, "OLD BENCH: those BENCHED, as bits.");
        due(new LastLoaf(), 0, "bench");
        due(of(STARVING), 0, "bench");
        due(baked(of(STARVING), 1), 3, "bench");
        due(baked(of(STARVING), 9), 7, "bench");
        due(baked(of(times(6, "person hunger 9") + NO_GRIST), 1), 63, "bench");
        sentence(52, "CROWD: those who STAND, as bits.");
        due(new LastLoaf(), 0, "crowd");
        due(of(times(6, STANDS)), 63, "crowd");
        due(baked(of(STARVING), 9), 5, "crowd");
        sentence(53, "NEVER: those whose HAD is 0, as bits.");
        due(new LastLoaf(), 0, "never");
        due(of(times(6, STANDS)), 63, "never");
        due(baked(of(times(6, STANDS)), 1), 62, "never");
        sentence(7, "SHARE of one of HAD of all, in hundredths, rounded down (0 without).");
        due(of(STANDS), 0, "person", 0, 12);
        due(baked(of(STANDS), 1), 100, "person", 0, 12);
        LastLoaf shares = of(STANDS + ";" + STANDS + ";flour 9", "spite 9 if had>1");
        shares.weeks(3);
        due(shares, 66, "person", 0, 12);
        due(shares, 33, "person", 1, 12);
        due(baked(of(STANDS + ";" + ONE), 999), 0, "person", 1, 12);
        due(baked(of(STANDS + ";" + ONE), 999), 100, "person", 0, 12);
        sentence(54, "ALIKE: pairs of PEOPLE of like PARTY and SKIN.");
        due(new LastLoaf(), 0, "alike");
        due(of(ONE), 0, "alike");
        due(of(ONE + ";" + ONE), 1, "alike");
        due(of(times(6, ONE)), 15, "alike");
        due(of(ONE + ";person hunger 1 skin 1"), 0, "alike");
        due(of(ONE + ";person hunger 1 party crust"), 0, "alike");
        due(baked(of(times(2, "person hunger 9") + ";person hunger 0" + NO_GRIST), 1), 3, "alike");
    }

    private static void trials() {
        sentence(56, "TRIAL of N WEEKS (0 to 60) from now (draws, too; nothing stays): those BENCHED then, as bits; HUNGER of all together.");
        String village = "person hunger 3 stands;person hunger 7 stands;person hunger 0;person hunger 6 stands;flour 99;speech 60;likes 2 3 6";
        for (int n : new int[] {0, 1, 2, 3, 7, 59, 60}) {
            for (int seed = 1; seed < 9; seed++) {
                LastLoaf x = of(village);
                x.seed(seed);
                String was = state(x);
                int benched = x.trial(n, false);
                int hunger = x.trial(n, true);
                same(state(x), was, "nothing stays");
                if (n > 0) x.weeks(n);
                same(benched, x.bench(), "those BENCHED after " + n);
                same(hunger, x.count(9), "HUNGER after " + n);
            }
        }
        for (int n : new int[] {-1, 61, MOST, LEAST}) {
            refused(() -> of(STARVING), ARGUMENT, "trial", n, 0);
            refused(() -> of(STARVING), ARGUMENT, "trial", n, 1);
        }
        due(new LastLoaf(), 0, "trial", 60, 0);
        due(new LastLoaf(), 0, "trial", 60, 1);
        sentence(57, "SPAN: the least and the greatest number BENCHED so from SEED 1, 2, .. 6.");
        LastLoaf y = of(village);
        y.seed(-5);
        for (int n : new int[] {0, 1, 2, 3, 7, 60}) {
            int least = 9, most = 0;
            for (int seed = 1; seed <= 6; seed++) {
                LastLoaf x = of(village);
                x.seed(seed);
                if (n > 0) x.weeks(n);
                least = Math.min(least, Integer.bitCount(x.bench()));
                most = Math.max(most, Integer.bitCount(x.bench()));
            }
            due(y, least, "span", n, 0);
            due(y, most, "span", n, 1);
        }
        due(y, -5, "seed", 1);
        // In the one village the sixth seed goes further than those before, in the other one the seventh would
        int[] further = new int[9];
        for (int hunger = 3; hunger < 9; hunger++) {
            for (int n = 0; n < 20; n++) {
                LastLoaf x = of("person hunger " + hunger + " stands;person hunger 6 stands;person hunger 5 stands;" + times(3, "person hunger 0")
                        + ";speech 70;likes 3 1 6;likes 4 2 6", "spite 3 if run>0;sway 1 if hunger>4");
                int least = 9, most = 0;
                for (int seed = 1; seed <= 7; seed++) {
                    x.seed(seed);
                    int benched = Integer.bitCount(x.trial(n, false));
                    if (benched < least || benched > most) further[seed]++;
                    if (seed < 7) least = Math.min(least, benched);
                    if (seed < 7) most = Math.max(most, benched);
                }
                due(x, least, "span", n, 0);
                due(x, most, "span", n, 1);
            }
        }
        same(further[6] > 0 && further[7] > 0, true, "there are such villages");
        for (int n : new int[] {-1, 61, MOST, LEAST}) {
            refused(() -> of(STARVING), ARGUMENT, "span", n, 0);
            refused(() -> of(STARVING), ARGUMENT, "span", n, 1);
        }
        due(new LastLoaf(), 0, "span", 60, 0);
        due(new LastLoaf(), 0, "span", 60, 1);
        due(baked(of(STARVING), 1), 2, "span", 0, 0);
        due(baked(of(STARVING), 1), 3, "span", 60, 1);
    }

    private static void undone() {
        sentence(61, "UNDONE: the latest ACT not undone yet (12 are remembered; WEEKS of one call are one)");
        LastLoaf x = new LastLoaf();
        due(x, 0, "undo");
        for (int i = 1; i <= 14; i++) {
            due(x, i, "bring", 1);
            due(x, Math.min(12, i), "count", 12);
        }
        for (int i = 13; i >= 2; i--) {
            due(x, 1, "undo");
            due(x, i, "count", 4);
            due(x, i - 2, "count", 12);
        }
        due(x, 0, "undo");
        due(x, 2, "count", 4);
        due(x, 3, "bring", 1);
        due(x, 1, "count", 12);
        due(x, 1, "undo");
        due(x, 2, "count", 4);
        LastLoaf y = of(STARVING);
        String was = state(y);
        y.weeks(60);
        due(y, 1, "count", 12);
        due(y, 1, "undo");
        same(state(y), was, "sixty weeks are one act");
        sentence(61, "all is as ahead of it (but for the TAPE, fault(), THE IMAGE).");
        LastLoaf z = of(STARVING);
        tell(z, "way 1;x");
        answer(z, "village");
        String before = state(z);
        z.weeks(2);
        z.seed(44);
        tell(z, "way 2");
        z.image();
        due(z, 1, "undo");
        same(state(z), before, "all");
        due(z, 6, "fault");
        due(z, 1, "end", 5);
        due(z, 2, "village");
        due(z, 2, "count", 5);
        due(z, 1, "back");
        due(z, 2, "count", 3);
        due(z, 44, "seed", 1);
        LastLoaf full = baked(of(STANDS), 61);
        String rows = state(full);
        full.weeks(30);
        due(full, 1, "undo");
        same(state(full), rows, "a full LOG");
        sentence(61, "ACTS: WEEKS; one STANDS, or does not; LIKES are told; a PARTY is told; FLOUR is brought; WAY is told;");
        Supplier<LastLoaf> make = () -> baked(of("person hunger 9;person hunger 0 stands;person hunger 0 stands;likes 0 1 3" + NO_GRIST + ";flour 9"), 1);
        int[][] acts = {{1, 2}, {0, 1}, {0, 1, 4}, {1, 1}, {5}, {3}, {0, 1}};
        String[] names = {"weeks", "stand", "like", "join", "bring", "way", "pass"};
        for (int i = 0; i < names.length; i++) {
            LastLoaf a = make.get();
            String ahead = state(a);
            if (i == 0) due(a, 0, "weeks", 2);
            else same(answer(a, names[i], acts[i]) instanceof Long, true, names[i]);
            due(a, 2, "count", 12);
            same(state(a).equals(ahead), false, names[i] + " changes something");
            due(a, 1, "undo");
            same(state(a), ahead, "undo() of " + names[i]);
        }
        // An act that changes nothing is one, too
        LastLoaf again = of(STARVING);
        String[] calls = {"stand", "like", "join", "way"};
        int[][] told = {{0, 1}, {0, 1, 5}, {0, 2}, {0}};
        for (int i = 0; i < calls.length; i++) {
            answer(again, calls[i], told[i]);
            due(again, i + 1, "count", 12);
        }
        LastLoaf bench = baked(of(STARVING), 1);
        String ahead = state(bench);
        bench.fetch(0);
        due(bench, 2, "count", 12);
        due(bench, 1, "undo");
        same(state(bench), ahead, "undo() of fetch");
        sentence(61, "A text, going back: none are remembered.");
        LastLoaf w = of(ONE);
        w.bring(1);
        due(w, 2, "village");
        due(w, 0, "count", 12);
        due(w, 0, "undo");
        w.bring(1);
        due(w, 0, "law");
        due(w, 0, "undo");
        w.bring(1);
        tell(w, "x");
        answer(w, "village");
        tell(w, "x");
        answer(w, "law");
        due(w, 1, "count", 12);
        w.image();
        due(w, 1, "count", 12);
        due(w, 1, "back");
        due(w, 0, "count", 12);
        due(w, 0, "undo");
        LastLoaf v = new LastLoaf();
        v.bring(1);
        due(v, 0, "back");
        due(v, 1, "count", 12);
        sentence(61, "UNDONE: whether there was one.");
        due(v, 1, "undo");
        due(v, 0, "undo");
    }

    private static void image() {
        sentence(62, "THE IMAGE (one) of all may be kept, and gone back to (but for the TAPE, fault() and THE IMAGE itself).");
        LastLoaf x = of(STARVING, "sway 3 if hunger>4");
        x.weeks(1);
        x.seed(-7);
        x.image();
        String was = state(x).replaceFirst("^((\\S+ ){12})\\S+", "$1");
        tell(x, ONE + ";flour 7;grist winter 0;speech 1;way 3;week 9");
        x.village();
        withLaw(x, "spite 9;abstain");
        x.fetch(0);
        x.stand(2, false);
        x.like(0, 1, 9);
        x.join(0, 1);
        x.weeks(60);
        x.seed(77);
        tell(x, "flour x");
        answer(x, "village");
        tell(x, "flour 8");
        due(x, 1, "back");
        same(state(x).replaceFirst("^((\\S+ ){12})\\S+", "$1"), was, "all is as it was");
        due(x, 0, "count", 12);
        due(x, 6, "fault");
        due(x, 2, "village");
        due(x, 8, "count", 4);
        due(x, 1, "back");
        due(x, 0, "count", 4);
        sentence(62, "THE IMAGE is kept.");
        x.bring(4);
        x.image();
        x.bring(5);
        due(x, 2, "count", 12);
        due(x, 1, "back");
        due(x, 4, "count", 4);
        due(x, 1, "back");
        due(x, 4, "count", 4);
        LastLoaf none = new LastLoaf();
        none.image();
        tell(none, times(6, STANDS));
        none.village();
        due(none, 1, "back");
        due(none, 0, "count", 0);
        due(none, 0, "count", 1);
        tell(none, ONE);
        due(none, 1, "village");
        due(none, 0, "crowd");
        sentence(63, "One goes back to THE IMAGE: true; false, and nothing happens, if none was kept.");
        LastLoaf y = of(STARVING);
        y.bring(1);
        String all = state(y);
        tell(y, "flour 6");
        due(y, 0, "back");
        same(state(y), all, "nothing happens");
        due(y, 2, "village");
        due(y, 6, "count", 4);
    }

    // ---- the promises' own sentences

    private static void tape() {
        sentence(2, "Twenty bytes come behind the TAPE, of each number the highest first: how many it has;");
        LastLoaf x = new LastLoaf();
        // "flour 5" and blanks, then "; way 3"
        due(x, 20, "feed", 0x666c6f75, 0x72203520, 0x20202020, 0x20202020, 0x20202020);
        due(x, 1, "end", 10);
        due(x, 30, "feed", 0x3b207761, 0x79203320, 0x20202020, 0x20202020, 0x20202020);
        due(x, 1, "village");
        due(x, 5, "count", 4);
        due(x, 3, "count", 5);
        LastLoaf high = new LastLoaf();
        due(high, 20, "feed", 0x20ffffff, -1, LEAST, MOST, 0);
        same(answer(high, "village"), ARGUMENT, "a byte of 255");
        due(high, 1, "fault");
        sentence(2, "NONE, and none come, if it would have more than 400.");
        LastLoaf y = new LastLoaf();
        for (int i = 1; i <= 20; i++) due(y, 20 * i, "feed", 0x20202020, 0x20202020, 0x20202020, 0x20202020, 0x20202020);
        due(y, NONE, "feed", 0, 0, 0, 0, 0);
        due(y, 0, "end", 401);
        due(y, 1, "end", 400);
        due(y, 1, "end", 381);
        due(y, NONE, "feed", 0, 0, 0, 0, 0);
        due(y, 0, "end", 382);
        due(y, 1, "end", 380);
        due(y, 400, "feed", 0x20202020, 0x20202020, 0x20202020, 0x20202020, 0x20202020);
        due(y, 1, "village");
        sentence(3, "The TAPE has its first n bytes alone: true; false, and nothing happens, if it has fewer, or n is below 0.");
        LastLoaf z = new LastLoaf();
        due(z, 1, "end", 0);
        due(z, 0, "end", 1);
        tell(z, "flour 123");
        for (int n : new int[] {10, 20, -1, MOST, LEAST}) due(z, 0, "end", n);
        due(z, 1, "end", 9);
        due(z, 1, "end", 8);
        due(z, 0, "end", 9);
        due(z, 1, "village");
        due(z, 12, "count", 4);
        due(z, 1, "end", 0);
        sentence(4, "Uses the TAPE up: a text of THE VILLAGE: how many there are.");
        tell(z, "flour 9");
        due(z, 2, "village");
        due(z, 0, "end", 1);
        due(z, 3, "village");
        due(z, 9, "count", 4);
        sentence(5, "Uses the TAPE up: THE LAW: how many LINES.");
        tell(z, "sway 9");
        due(z, 1, "law");
        due(z, 0, "end", 1);
        due(z, 0, "law");
    }

    private static void answersOfPersons() {
        sentence(7, "NoSuchElementException: another what.");
        LastLoaf x = baked(of(times(6, STANDS)), 2);
        int[] known = {0, 2, 0, 1, 0, 2, 2, 0, 1, 25, 5, 0, 100, 1};
        for (int what = 0; what < 14; what++) due(x, known[what], "person", 0, what);
        for (int what : new int[] {14, -1, MOST, LEAST}) refused(() -> of(STARVING), ELEMENT, "person", 0, what);
        sentence(8, "LIKES of the first one of the other one. IllegalArgumentException: both are one.");
        due(of(ONE + ";" + ONE + ";likes 0 1 2;likes 1 0 8"), 2, "likes", 0, 1);
        due(of(ONE + ";" + ONE + ";likes 0 1 2;likes 1 0 8"), 8, "likes", 1, 0);
        refused(() -> of(STARVING), ARGUMENT, "likes", 0, 0);
        refused(() -> of(STARVING), ARGUMENT, "likes", 2, 2);
        sentence(21, "IllegalArgumentException: both are one.");
        refused(() -> of(STARVING), ARGUMENT, "beats", 0, 0);
        refused(() -> of(STARVING), ARGUMENT, "beats", 1, 1);
    }

    private static void actEdges() {
        sentence(12, "One STANDS, or does not: whether that changed. IllegalStateException: it is BENCHED.");
        LastLoaf x = of(STARVING);
        due(x, 0, "stand", 0, 1);
        due(x, 1, "stand", 0, 0);
        due(x, 0, "stand", 0, 0);
        due(x, 1, "stand", 0, 1);
        due(x, 5, "crowd");
        due(x, 4, "count", 12);
        for (int is = 0; is < 2; is++) {
            int told = is;
            refused(() -> baked(of(STARVING), 1), STATE, "stand", 0, told);
            refused(() -> baked(of(STARVING), 1), STATE, "stand", 1, told);
            for (int p : new int[] {-1, 3, MOST, LEAST}) refused(() -> of(STARVING), PLACE, "stand", p, told);
        }
        sentence(13, "LIKES are told: what they were. IllegalArgumentException: both are one, or n is none (0 to 9).");
        LastLoaf y = of(STARVING);
        due(y, 5, "like", 0, 1, 9);
        due(y, 9, "like", 0, 1, 0);
        due(y, 0, "like", 0, 1, 0);
        due(y, 0, "likes", 0, 1);
        due(y, 5, "likes", 1, 0);
        for (int n : new int[] {-1, 10, MOST, LEAST}) refused(() -> of(STARVING), ARGUMENT, "like", 0, 1, n);
        refused(() -> of(STARVING), ARGUMENT, "like", 1, 1, 5);
        due(baked(of(STARVING), 1), 5, "like", 0, 1, 9);
        sentence(14, "A PARTY is told: what it was. IndexOutOfBoundsException: there is no such person, PARTY.");
        LastLoaf z = of(STARVING);
        due(z, 2, "join", 0, 0);
        due(z, 0, "join", 0, 1);
        due(z, 1, "join", 0, 2);
        due(z, 2, "join", 0, 2);
        for (int party : new int[] {-1, 3, MOST, LEAST}) refused(() -> of(STARVING), PLACE, "join", 0, party);
        for (int p : new int[] {-1, 3, MOST, LEAST}) refused(() -> of(STARVING), PLACE, "join", p, 0);
        sentence(15, "FLOUR is brought: what there is then (9999 at most). IllegalArgumentException: n is none (1 to 999).");
        LastLoaf w = new LastLoaf();
        due(w, 1, "bring", 1);
        due(w, 1000, "bring", 999);
        for (int i = 2; i <= 10; i++) due(w, 999 * i + 1, "bring", 999);
        due(w, 9999, "bring", 999);
        due(w, 9999, "bring", 1);
        for (int n : new int[] {0, -1, 1000, MOST, LEAST}) refused(LastLoaf::new, ARGUMENT, "bring", n);
        sentence(16, "WAY is told: what it was. IllegalArgumentException: it is none (0 to 5).");
        LastLoaf v = new LastLoaf();
        for (int way = 1; way < 6; way++) due(v, way - 1, "way", way);
        due(v, 5, "way", 0);
        for (int way : new int[] {-1, 6, MOST, LEAST}) refused(LastLoaf::new, ARGUMENT, "way", way);
    }

    private static void numbersRefused() {
        sentence(23, "IllegalArgumentException: the WAY or N is none.");
        for (int n : new int[] {-1, 61, MOST, LEAST}) refused(() -> of(STARVING), ARGUMENT, "hungry", 0, n);
        for (int way : new int[] {-1, 6, MOST, LEAST}) refused(() -> of(STARVING), ARGUMENT, "hungry", way, 0);
        sentence(24, "KINDEST. IllegalArgumentException: N is none.");
        for (int n : new int[] {-1, 61, MOST, LEAST}) refused(() -> of(STARVING), ARGUMENT, "kindest", n);
        sentence(25, "NEXT; NONE. IllegalArgumentException: N is none.");
        for (int n : new int[] {-1, 61, MOST, LEAST}) refused(() -> of(STARVING), ARGUMENT, "next", n);
        due(of(STARVING), 0, "next", 0);
        due(of(STARVING), NONE, "next", 60);
    }

    private static void peopleRefused() {
        String[] alone = {"woo", "swings", "ring"};
        int[] promises = {26, 37, 45};
        int[] bad = {-1, 3, 6, 32, MOST, LEAST};
        for (int i = 0; i < alone.length; i++) {
            String name = alone[i];
            sentence(promises[i], "IndexOutOfBoundsException: there is no such person, PARTY, SEASON.");
            for (int p : bad) refused(() -> of(STARVING), PLACE, name, p);
            refused(LastLoaf::new, PLACE, name, 0);
        }
        String[] second = {"person", "rank", "order", "slices", "led"};
        int[] of = {7, 20, 28, 44, 58};
        for (int i = 0; i < second.length; i++) {
            String name = second[i];
            sentence(of[i], "IndexOutOfBoundsException: there is no such person, PARTY, SEASON.");
            for (int p : bad) refused(() -> of(STARVING), PLACE, name, p, 0);
            refused(LastLoaf::new, PLACE, name, 0, 0);
        }
        String[] two = {"likes", "favour", "beats", "pass", "rests"};
        int[] ofTwo = {8, 9, 21, 17, 46};
        for (int i = 0; i < two.length; i++) {
            String name = two[i];
            sentence(ofTwo[i], "IndexOutOfBoundsException: there is no such person, PARTY, SEASON.");
            for (int p : bad) {
                refused(() -> of(STARVING), PLACE, name, p, 0);
                refused(() -> of(STARVING), PLACE, name, 0, p);
                refused(() -> of(STARVING), PLACE, name, p, p);
            }
            refused(LastLoaf::new, PLACE, name, 0, 1);
        }
        sentence(13, "IndexOutOfBoundsException: there is no such person, PARTY, SEASON.");
        for (int p : bad) {
            refused(() -> of(STARVING), PLACE, "like", p, 0, 5);
            refused(() -> of(STARVING), PLACE, "like", 0, p, 5);
        }
    }

    private static void firstTold() {
        String told = "Of several exceptions the one told first is thrown;";
        sentence(4, told);
        Supplier<LastLoaf> twelve = () -> {
            LastLoaf y = new LastLoaf();
            for (int i = 1; i <= 12; i++) y.village();
            return y;
        };
        wrong(twelve, "village", "flour x", 6);
        sentence(7, told);
        refused(() -> of(STARVING), PLACE, "person", 3, 14);
        sentence(8, told);
        refused(() -> of(STARVING), PLACE, "likes", 3, 3);
        sentence(12, told);
        refused(() -> baked(of(STARVING), 1), PLACE, "stand", 3, 1);
        sentence(13, told);
        refused(() -> of(STARVING), PLACE, "like", 3, 3, 10);
        refused(() -> of(STARVING), PLACE, "like", 0, 3, 10);
        sentence(17, told);
        refused(() -> baked(of(STARVING), 1), PLACE, "pass", 3, 3);
        refused(() -> baked(of(STARVING), 1), PLACE, "pass", 0, 3);
        refused(() -> baked(of(STARVING), 1), ARGUMENT, "pass", 0, 0);
        sentence(18, told);
        refused(() -> of(STARVING), PLACE, "fetch", 3);
        sentence(21, told);
        refused(() -> of(STARVING), PLACE, "beats", 3, 3);
        sentence(34, told);
        refused(() -> of(STANDS), rows(0), true, PLACE, "sure", 1);
        sentence(44, told);
        refused(() -> of(STARVING), PLACE, "slices", 3, 1000);
        sentence(46, told);
        refused(() -> of(STARVING), PLACE, "rests", 3, 3);
        refused(() -> of(STARVING), ARGUMENT, "rests", 1, 1);
        sentence(55, told);
        refused(() -> of(STARVING), PLACE, "ahead", 3, 61, 3);
        refused(() -> of(STARVING), PLACE, "ahead", 3, 0, 3);
        refused(() -> of(STARVING), PLACE, "ahead", 3, 61, 0);
        refused(() -> of(STARVING), ARGUMENT, "ahead", 0, 61, 3);
    }

    /** All refusals above are held to this, too; here it is shown once for each call that reads the TAPE, and for one that does not. */
    private static void refusedTapes() {
        String told = "a call that throws changes nothing but the TAPE, where it is used up.";
        String[] readers = {"village", "law", "ballots", "ask", "sure"};
        int[] promises = {4, 5, 33, 35, 34};
        for (int i = 0; i < readers.length; i++) {
            sentence(promises[i], told);
            LastLoaf x = of(STARVING);
            String was = state(x);
            for (int length : new int[] {1, 7, 399, 400}) {
                byte[] wrong = new byte[length];
                java.util.Arrays.fill(wrong, (byte) 'x');
                tell(x, wrong);
                same(answer(x, readers[i], readers[i].equals("sure") ? new int[] {0} : new int[0]), ARGUMENT, readers[i]);
                due(x, 0, "end", 1);
                due(x, 1, "end", 0);
                due(x, 20, "feed", 0, 0, 0, 0, 0);
                same(state(x), was, "nothing else");
            }
        }
        sentence(11, told);
        LastLoaf x = of(STARVING);
        tell(x, "flour 123");
        same(answer(x, "weeks", 0), ARGUMENT, "weeks(0)");
        due(x, 0, "end", 10);
        due(x, 1, "end", 9);
        due(x, 2, "village");
        due(x, 123, "count", 4);
    }

    /** Each call that only asks, with numbers that can be. */
    private static final String[] QUESTIONS = {"fault", "person 0 0", "person 0 7", "person 0 8", "person 0 9", "person 0 10", "person 0 11", "person 0 12",
        "person 0 13", "likes 0 1", "favour 0 1", "grist 3", "winner 0", "winner 1", "winner 2", "winner 3", "winner 4", "winner 5", "rank 0 0", "beats 0 2", "master",
        "hungry 3 60", "kindest 60", "next 60", "woo 2", "orders", "order 2 0", "rota 5 -1", "rota 5 4", "lasts", "mill 60", "starves 0", "starves 1", "carries 7",
        "swings 0", "smallest", "bloc 2", "kingmaker", "couples -1", "couples 0", "camps", "table -1", "table 1", "slices 0 999", "ring 0", "rests 2 0", "odds 6 3",
        "hungriest", "loved", "thick", "bench", "crowd", "never", "alike", "ahead 0 60 0", "ahead 0 60 1", "ahead 0 60 2", "trial 60 0", "trial 60 1", "span 60 0",
        "span 60 1", "led 0 0", "led 0 1", "log 0 0", "count 0", "count 7", "count 12"};

    private static Object asked(Object x, String question) {
        String[] words = question.split(" ");
        int[] args = new int[words.length - 1];
        for (int i = 0; i < args.length; i++) args[i] = Integer.parseInt(words[i + 1]);
        return answer(x, words[0], args);
    }

    private static void questions() {
        sentence(56, "(draws, too; nothing stays)");
        byte[] tape = "flour 77".getBytes(StandardCharsets.ISO_8859_1);
        Supplier<LastLoaf> make = () -> baked(of("person hunger 8 stands;person hunger 7;person hunger 4 stands;person hunger 2 party crust;flour 4;speech 60" + NO_GRIST, "sway 2 if hunger>3"), 2);
        String untouched = history(ready(make, tape), true);
        for (String question : QUESTIONS) {
            LastLoaf x = ready(make, tape);
            asked(x, question);
            same(history(x, true), untouched, question + " changed something");
        }
        sentence(64, "Nothing is promised beyond the answers and state changes described above");
        LastLoaf all = ready(make, tape);
        for (int round = 0; round < 2; round++) {
            for (String question : QUESTIONS) same(asked(all, question), asked(ready(make, tape), question), question + " behind other questions");
        }
        for (int i = QUESTIONS.length - 1; i >= 0; i--) same(asked(all, QUESTIONS[i]), asked(ready(make, tape), QUESTIONS[i]), QUESTIONS[i] + " behind other questions");
        same(history(all, true), untouched, "all questions");
        sentence(64, "PEOPLE (at most 6, numbered from 0 on)");
        String[] villages = {times(6, "person hunger 7 stands"), times(6, "person hunger 3"), times(3, "person hunger 8 stands") + ";" + times(3, "person hunger 4 skin 3"),
            times(5, "person hunger 8 stands") + ";person hunger 0", times(6, "person hunger 9 stands") + NO_GRIST, times(2, "person hunger 5 party crust stands")};
        for (String village : villages) {
            for (int weeks = 0; weeks < 4; weeks++) {
                LastLoaf x = of(village);
                Model model = new Model();
                tellModel(model, village);
                if (weeks > 0) x.weeks(weeks);
                if (weeks > 0) model.weeks(weeks);
                for (int last = 0; last < x.count(0); last += 5) {
                    for (String question : QUESTIONS) {
                        String asked = question.replaceFirst("^(\\w+) 0 ", "$1 " + last + " ").replaceFirst("^(\\w+) 0$", "$1 " + last);
                        same(asked(x, asked), asked(model, asked), asked + " after " + weeks + " weeks of " + village);
                    }
                }
            }
        }
    }

    private static void tellModel(Model x, String text) {
        byte[] b = java.util.Arrays.copyOf(text.getBytes(StandardCharsets.ISO_8859_1), 400);
        for (int i = 0; i < text.length(); i += 20) {
            int[] n = new int[5];
            for (int j = 0; j < 20; j++) n[j / 4] = n[j / 4] << 8 | b[i + j] & 255;
            x.feed(n[0], n[1], n[2], n[3], n[4]);
        }
        x.end(text.length());
        x.village();
    }

    private static void nobody() {
        sentence(36, "Sets are bits; of none they count for nothing.");
        LastLoaf x = new LastLoaf();
        for (int house : new int[] {0, 1, 63, -1, MOST, LEAST}) due(x, 0, "carries", house);
        due(of(ONE), 0, "carries", 62);
        due(of(ONE), 1, "carries", 63);
        due(of(ONE), 1, "carries", 1);
        sentence(64, "7 VOTERS, as bits, 8 RUNNERS, as bits,");
        due(x, 0, "count", 7);
        due(x, 0, "count", 8);
        due(of(times(6, STANDS)), 63, "count", 7);
        due(of(times(6, STANDS)), 63, "count", 8);
    }

    private static void counts() {
        sentence(64, "2 LINES of THE LAW (NONE without one)");
        LastLoaf x = of(STARVING);
        due(x, NONE, "count", 2);
        due(withLaw(x, ""), 0, "count", 2);
        due(withLaw(x, times(12, "abstain")), 12, "count", 2);
        sentence(64, "9 HUNGER of all together, 10 HAD of all together, 11 rows of THE LOG, 12 acts that can be UNDONE.");
        due(of(times(6, "person hunger 9")), 54, "count", 9);
        due(baked(of(STARVING), 1), 19, "count", 9);
        due(baked(of(STANDS), 60), 60, "count", 10);
        due(baked(of(STANDS), 61), 60, "count", 11);
        due(baked(of(STANDS), 61), 2, "count", 12);
        sentence(64, "NONE for another what.");
        for (int what : new int[] {13, -1, MOST, LEAST}) due(x, NONE, "count", what);
    }
}
