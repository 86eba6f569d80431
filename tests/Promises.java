import java.nio.charset.StandardCharsets;
import java.util.NoSuchElementException;

/** For each promise of the document what it answers: ordinary calls, its edges, and wrong calls. */
public final class Promises {
    private static final int NONE = -1;
    private static int wrong = 0;
    private static int checks = 0;

    /** Three people, two of whom stand and are of one party; the third one likes 1. */
    private static final String SMALL = "person hunger 2 party crust stands;person hunger 4 party crust skin 3 stands;"
            + "person hunger 6;likes 2 1 8;flour 3;grist spring 1;grist summer 0;speech 50";
    /** Three who stand and beat one another in a ring (0 beats 1, 1 beats 2, 2 beats 0), by three who do not. */
    private static final String RING = "person hunger 1 stands;person hunger 1 stands;person hunger 1 stands;"
            + "person hunger 0;person hunger 0;person hunger 0;"
            + "likes 3 0 9;likes 3 1 8;likes 4 1 9;likes 4 2 8;likes 5 2 9;likes 5 0 8";
    /** The three who stand do not vote, as none of them would agree. */
    private static final String RING_LAW = "abstain if standing";

    public static void main(String[] args) {
        newObject();
        tape();
        villageTexts();
        villageFaults();
        lawTexts();
        lawFaults();
        lawSways();
        persons();
        likesAndFavour();
        grist();
        weeks();
        weekEdges();
        speeches();
        acts();
        passing();
        bench();
        winners();
        counting();
        ahead();
        wooing();
        orders();
        turns();
        flour();
        ballots();
        houses();
        friends();
        slices();
        rings();
        rests();
        odds();
        sets();
        trials();
        log();
        undoing();
        images();
        counts();
        System.out.println(checks + " checks, " + wrong + " not as due");
        if (wrong != 0) System.exit(1);
    }

    private interface Call { long answer(); }

    private static void is(int promise, String call, long got, long due) {
        checks++;
        if (got != due) {
            wrong++;
            System.out.println("promise " + promise + ": " + call + " answered " + got + ", due is " + due);
        }
    }

    private static void is(int promise, String call, boolean got, boolean due) { is(promise, call, got ? 1 : 0, due ? 1 : 0); }

    /** The call throws just this, and all that can be asked is as it was. */
    private static void fails(int promise, String call, LastLoaf x, Class<?> due, Call c) {
        String was = all(x);
        Class<?> got = null;
        try {
            c.answer();
        } catch (RuntimeException e) {
            got = e.getClass();
        }
        checks++;
        if (got != due) {
            wrong++;
            System.out.println("promise " + promise + ": " + call + " threw " + got + ", due is " + due);
        }
        checks++;
        if (!was.equals(all(x))) {
            wrong++;
            System.out.println("promise " + promise + ": " + call + " threw and changed\n  " + was + "\n  " + all(x));
        }
    }

    private static final Class<?> PLACE = IndexOutOfBoundsException.class;
    private static final Class<?> ARGUMENT = IllegalArgumentException.class;
    private static final Class<?> STATE = IllegalStateException.class;
    private static final Class<?> ELEMENT = NoSuchElementException.class;

    private static String all(LastLoaf x) {
        StringBuilder b = new StringBuilder();
        for (int what = 0; what <= 12; what++) b.append(x.count(what)).append(' ');
        for (int p = 0; p < x.count(0); p++) {
            for (int what = 0; what <= 6; what++) b.append(x.person(p, what)).append(' ');
            for (int q = 0; q < x.count(0); q++) b.append(x.favour(p, q)).append(p == q ? 9 : x.likes(p, q)).append(' ');
        }
        for (int s = 0; s < 4; s++) b.append(x.grist(s)).append(' ');
        for (int ago = 0; ago < x.count(11); ago++) for (int what = 0; what < 4; what++) b.append(x.log(ago, what)).append(' ');
        int seed = x.seed(0);
        x.seed(seed);
        return b.append(seed).toString();
    }

    private static void tell(LastLoaf x, String text) { tell(x, text.getBytes(StandardCharsets.ISO_8859_1)); }

    private static void tell(LastLoaf x, byte[] bytes) {
        for (int i = 0; i < bytes.length; i += 20) {
            int[] n = new int[5];
            for (int j = 0; j < 20; j++) n[j / 4] = n[j / 4] << 8 | (i + j < bytes.length ? bytes[i + j] & 255 : 0);
            x.feed(n[0], n[1], n[2], n[3], n[4]);
        }
        x.end(bytes.length);
    }

    private static LastLoaf of(String village) { return of(village, null); }

    private static LastLoaf of(String village, String law) {
        LastLoaf x = new LastLoaf();
        tell(x, village);
        x.village();
        if (law != null) {
            tell(x, law);
            x.law();
        }
        return x;
    }

    private static int villageFault(LastLoaf x, String text) {
        tell(x, text);
        fails(4, "village() of " + text, x, ARGUMENT, () -> x.village());
        return x.fault();
    }

    private static int lawFault(LastLoaf x, String text) {
        tell(x, text);
        fails(5, "law() of " + text, x, ARGUMENT, () -> x.law());
        return x.fault();
    }

    private static void newObject() {
        LastLoaf x = new LastLoaf();
        int[] due = {0, 0, NONE, 0, 0, 0, 0, 0, 0, 0, 0, 0, 0};
        for (int what = 0; what < due.length; what++) is(1, "count(" + what + ")", x.count(what), due[what]);
        is(1, "seed(1)", x.seed(1), 1);
        is(1, "NONE", LastLoaf.NONE, NONE);
        is(6, "fault() ahead of any", x.fault(), NONE);
        is(61, "undo() at first", x.undo(), false);
        is(63, "back() at first", x.back(), false);
    }

    private static void tape() {
        LastLoaf x = new LastLoaf();
        is(2, "feed", x.feed(0, 0, 0, 0, 0), 20);
        is(3, "end(-1)", x.end(-1), false);
        is(3, "end(21)", x.end(21), false);
        is(3, "end(20)", x.end(20), true);
        is(3, "end(0)", x.end(0), true);
        for (int i = 1; i <= 20; i++) is(2, "feed no. " + i, x.feed(1, 2, 3, 4, 5), 20 * i);
        is(2, "feed past 400", x.feed(1, 2, 3, 4, 5), NONE);
        is(3, "end(381)", x.end(381), true);
        is(2, "feed from 381", x.feed(1, 2, 3, 4, 5), NONE);
        is(3, "end(382)", x.end(382), false);
        is(3, "end(380)", x.end(380), true);
        is(2, "feed from 380", x.feed(1, 2, 3, 4, 5), 400);
        is(3, "end(0)", x.end(0), true);
        // flour 7, the highest byte first
        x.feed('f' << 24 | 'l' << 16 | 'o' << 8 | 'u', 'r' << 24 | '7' << 16 | 200, 0, 0, 0);
        x.end(6);
        is(4, "village()", x.village(), 1);
        is(2, "FLOUR that was fed", x.count(4), 7);
        is(3, "end(1) of a tape that is used up", x.end(1), false);
    }

    private static void villageTexts() {
        LastLoaf x = of("  person hunger 9party crumb skin 8stands ; person hunger 000;likes 0 1 0;likes 1 0 9;"
                + "flour 999;grist spring 1;grist summer 99;grist autumn 0;grist winter 7;way 5;speech 100;week 999 ");
        int[] first = {9, 1, 8, 1, 0, 0, 0};
        int[] second = {0, 2, 0, 0, 0, 0, 0};
        for (int what = 0; what < 7; what++) {
            is(4, "person(0, " + what + ")", x.person(0, what), first[what]);
            is(4, "person(1, " + what + ")", x.person(1, what), second[what]);
        }
        is(4, "likes(0, 1)", x.likes(0, 1), 0);
        is(4, "likes(1, 0)", x.likes(1, 0), 9);
        int[] grists = {1, 99, 0, 7};
        for (int s = 0; s < 4; s++) is(10, "grist(" + s + ")", x.grist(s), grists[s]);
        is(64, "FLOUR", x.count(4), 999);
        is(64, "WAY", x.count(5), 5);
        is(64, "SPEECH", x.count(6), 100);
        is(64, "WEEK", x.count(3), 999);
        tell(x, "flour 0;way 0;speech 0;week 0;grist spring 0;likes 1 0 0");
        is(4, "village() of 0", x.village(), 2);
        for (int what = 3; what < 7; what++) is(4, "count(" + what + ") of 0", x.count(what), 0);
        is(4, "grist(0) of 0", x.grist(0), 0);
        is(4, "likes(1, 0) of 0", x.likes(1, 0), 0);
        tell(x, "");
        is(4, "village() of nothing", x.village(), 3);
        tell(x, "   ");
        is(4, "village() of blanks", x.village(), 4);
        tell(x, "person hunger 1;person hunger 1;person hunger 1;person hunger 1");
        is(4, "village() of four more", x.village(), 5);
        is(4, "PEOPLE", x.count(0), 6);
        is(6, "fault() of a person too many", villageFault(x, "flour 1; person hunger 1"), 9);
        is(4, "texts", x.count(1), 5);
        for (int i = 6; i <= 12; i++) is(4, "village() no. " + i, x.village(), i);
        tell(x, "flour 5");
        fails(4, "village() no. 13", x, UnsupportedOperationException.class, () -> x.village());
        is(4, "the tape is used up", x.feed(0, 0, 0, 0, 0), 20);
        x.end(0);
        is(6, "a wrong text is told first", villageFault(x, "flour"), 5);
        is(4, "FLOUR", x.count(4), 0);
    }

    private static void villageFaults() {
        LastLoaf x = of("person hunger 1;person hunger 2");
        String[] texts = {"x", "Person hunger 1", "personhunger 1", "person 1", "person hunger", "person hunger x",
            "person hunger 0001", "person hunger 10", "person hunger 1 party", "person hunger 1 party 0",
            "person hunger 1 skin", "person hunger 1 skin 10", "person hunger 1 stands skin 1", "person hunger 1 skin 1 party crust",
            "person hunger 1 person", "wayz 1", "grist", "person hunger 1 party crustz", "likes", "likes 2 0 1", "likes 0 2 1", "likes 0 0 1", "likes 0 1 10", "likes 0 1", "likes 0 1 9 9",
            "flour 1000", "flour -1", "flour 1,flour 2", "grist 0 1", "grist fall 1", "grist winter 100", "way 6", "speech 101",
            "week 1000", "flour 1;", "flour 1;  ", ";flour 1", "flour 1;;flour 1", "person hunger 1;likes 0 3 1", "flour 1" + (char) 233, "flour 1\n"};
        int[] faults = {0, 0, 0, 7, 13, 14, 14, 14, 21, 22, 20, 21, 23, 23, 16, 0, 5, 22, 5, 6, 8, 8, 10, 9, 12,
            6, 6, 7, 6, 6, 13, 4, 7, 5, 8, 10, 0, 8, 24, 7, 7};
        for (int i = 0; i < texts.length; i++) is(6, "fault() of " + texts[i], villageFault(x, texts[i]), faults[i]);
        is(4, "PEOPLE of wrong texts", x.count(0), 2);
        StringBuilder many = new StringBuilder("way 1");
        for (int i = 2; i <= 14; i++) many.append("; way ").append(i % 6);
        tell(x, many.toString());
        is(4, "village() of 14 lines", x.village(), 2);
        is(6, "fault() of 15 lines", villageFault(x, many + " ; way 1"), many.length() + 3);
        is(6, "fault() of 14 lines and ;", villageFault(x, many + ";"), many.length() + 1);
        tell(x, "way 2");
        x.village();
        is(6, "fault() of a right text", x.fault(), NONE);
    }

    private static void lawTexts() {
        LastLoaf x = of(SMALL);
        tell(x, "");
        is(5, "law() of nothing", x.law(), 0);
        is(64, "LINES", x.count(2), 0);
        is(9, "favour(0, 1) by a law of nothing", x.favour(0, 1), 5);
        StringBuilder many = new StringBuilder(" sway 1");
        for (int i = 2; i <= 12; i++) many.append(";sway1");
        tell(x, many.toString());
        is(5, "law() of 12 lines", x.law(), 12);
        is(9, "favour(0, 1) by 12 lines", x.favour(0, 1), 17);
        is(6, "fault() of 13 lines", lawFault(x, many + ";sway 1"), many.length() + 1);
        is(6, "fault() of 12 lines and ;", lawFault(x, many + "; "), many.length() + 2);
        is(9, "favour(0, 1) is kept", x.favour(0, 1), 17);
        tell(x, "spite 20;abstain if 1<0");
        is(5, "law() in place of the one before", x.law(), 2);
        is(9, "favour(0, 1) below 0", x.favour(0, 1), -15);
        is(6, "fault()", x.fault(), NONE);
    }

    private static void lawFaults() {
        LastLoaf x = of(SMALL, "sway 1");
        String[] texts = {"sways 1", "sway", "sway 21", "sway 0001", "sway x", "spite 1 2", "abstain if", "abstain if 1", "abstain if 1<",
            "abstain if 1<2<3", "abstain if 1+<2", "abstain if same same", "abstain if same and", "abstain if and same", "abstain if (same",
            "abstain if same)", "abstain if ()", "abstain if (1)<2", "abstain if 1000<2", "abstain if flour<2", "abstain if same or or same",
            "abstain if not", "abstain if same<1", "abstain if 1=1", "abstain unless same", "abstain if same;", "abstain;;abstain", "abstain if likes>standing",
            "abstain if ((((((same))))))", "abstain if (((((((same)))))))", "abstain if not(not(not(not same)))",
            "abstain if not not same and not not not not not not same and not not not not not not not same",
            "abstain if ((same) and ((same) or (((((same))))))", "sway 20 if not ( not ( not ( ( same ) ) ) )"};
        int[] faults = {0, 4, 5, 5, 5, 8, 10, 12, 13,
            14, 13, 16, 19, 11, 16,
            15, 12, 13, 11, 11, 19,
            14, 15, 12, 8, 16, 8, 17,
            NONE, 17, 23,
            85,
            38, 29};
        for (int i = 0; i < texts.length; i++) {
            if (faults[i] == NONE) {
                tell(x, texts[i]);
                is(5, "law() of " + texts[i], x.law(), 1);
            } else {
                is(6, "fault() of " + texts[i], lawFault(x, texts[i]), faults[i]);
            }
        }
        tell(x, "abstain if not not not not not not same or not (not (not(same or 1<2 and same)))");
        is(5, "law() of six deep, twice", x.law(), 1);
    }

    /** What a law makes of favour, of 0 for 1 in the small village; 5 without. */
    private static int swayed(String condition) {
        LastLoaf x = of(SMALL, "sway 10 if " + condition);
        return x.favour(0, 1) - 5;
    }

    private static void lawSways() {
        String[] hold = {"same", "standing", "voter<1", "other>0", "other<2", "likes>4", "likes<6", "hunger>3", "hunger<5", "had<1", "run<1",
            "skin<1", "not 1<0", "1<0 or 1<2", "1<0 and 1<0 or 1<2", "1<2 or 1<0 and 1<0", "not not same", "not (same and not same)",
            "(1<0 or 1<2) and (same)", "voter+other+likes+hunger+had+run+skin+1>10", "voter+other+likes+hunger+had+run+skin<11", "999>998+0",
            "not 1<0 and 1<2", "not(1<0)or 1<0"};
        String[] fall = {"not same", "not standing", "voter>0", "other>1", "likes>5", "hunger>4", "had>0", "run>0", "skin>0", "1<1", "1>1",
            "(1<0 or 1<2) and 1<0", "1<0 or 1<2 and 1<0", "not (1<0 or 1<2)", "not 1<2 or 1<0"};
        for (String c : hold) is(9, "sway 10 if " + c, swayed(c), 10);
        for (String c : fall) is(9, "sway 10 if " + c, swayed(c), 0);
        String deep = "other+1<voter+3";
        for (int i = 0; i < 6; i++) deep = "1<0 or same and (" + deep + ")";
        is(9, "sway 10 if " + deep, swayed("1<0 or same and " + deep), 10);
        String flat = deep.replace("voter+3", "voter+2");
        is(9, "sway 10 if " + flat, swayed("1<0 or same and " + flat), 0);
        StringBuilder sum = new StringBuilder("0");
        while (sum.length() < 383) sum.append("+0");
        is(9, "sway 10 if a long sum", swayed(sum + "+5>4"), 10);
        is(9, "sway 10 if a long sum falls", swayed(sum + "+5>5"), 0);
        LastLoaf x = of(SMALL, "sway 3 if likes>8;spite 4 if voter<1;abstain if hunger>5;sway 1 if skin>2");
        int[][] due = {{8, 1, 1}, {6, 13, 6}, {5, 8, 12}};
        for (int p = 0; p < 3; p++) for (int q = 0; q < 3; q++) is(9, "favour(" + p + ", " + q + ")", x.favour(p, q), due[p][q]);
        is(64, "VOTERS", x.count(7), 3);
        is(7, "VOTE of no voter", x.person(2, 7), NONE);
        is(20, "rank(2, 0) of no voter", x.rank(2, 0), NONE);
        is(64, "VOTERS by an abstain without if", of(SMALL, "abstain").count(7), 0);
        is(64, "VOTERS by abstain if same", of(SMALL, "abstain if same").count(7), 4);
        is(64, "VOTERS by abstain if likes<9", of(SMALL, "abstain if likes<9").count(7), 7);
        is(64, "VOTERS by abstain if voter<other", of(SMALL, "abstain if voter<other or other<voter").count(7), 7);
        LastLoaf y = of("person hunger 1 stands;person hunger 1 stands", "sway 7 if had>1;spite 9 if run>1");
        y.weeks(2);
        is(9, "favour by had and run", y.favour(1, 0), 3);
        LastLoaf z = of("person hunger 1;person hunger 1", "sway 9 if same");
        is(9, "favour of two of no party", z.favour(0, 1), 5);
    }

    private static void persons() {
        LastLoaf x = of(SMALL);
        int[][] due = {{2, 0, 0, 1, 0, 0, 0, 0, 1, 1, 0, 1, 0, 2}, {4, 0, 3, 1, 0, 0, 0, 1, 2, 2, 1, 0, 0, 2}, {6, 2, 0, 0, 0, 0, 0, 1, 0, 0, 0, NONE, 0, 1}};
        for (int p = 0; p < 3; p++) {
            for (int what = 0; what < 14; what++) is(7, "person(" + p + ", " + what + ")", x.person(p, what), due[p][what]);
        }
        fails(7, "person(3, 0)", x, PLACE, () -> x.person(3, 0));
        fails(7, "person(-1, 99)", x, PLACE, () -> x.person(-1, 99));
        fails(7, "person(0, 14)", x, ELEMENT, () -> x.person(0, 14));
        fails(7, "person(0, -1)", x, ELEMENT, () -> x.person(0, -1));
        x.weeks(2);
        x.stand(1, false);
        x.weeks(1);
        is(7, "SHARE of 0", x.person(0, 12), 33);
        is(7, "SHARE of 1", x.person(1, 12), 66);
        LastLoaf alone = of("person hunger 1 stands");
        is(7, "WOULD PASS of one alone", alone.person(0, 13), NONE);
        is(7, "VOTE of one alone", alone.person(0, 7), 0);
        is(7, "VOTE without runners", of("person hunger 1").person(0, 7), NONE);
    }

    private static void likesAndFavour() {
        LastLoaf x = of(SMALL);
        is(8, "likes(2, 1)", x.likes(2, 1), 8);
        is(8, "likes(1, 2)", x.likes(1, 2), 5);
        fails(8, "likes(0, 0)", x, ARGUMENT, () -> x.likes(0, 0));
        fails(8, "likes(3, 3)", x, PLACE, () -> x.likes(3, 3));
        fails(8, "likes(0, 3)", x, PLACE, () -> x.likes(0, 3));
        fails(8, "likes(-1, 0)", x, PLACE, () -> x.likes(-1, 0));
        int[][] due = {{11, 7, 5}, {7, 11, 5}, {5, 8, 9}};
        for (int p = 0; p < 3; p++) for (int q = 0; q < 3; q++) is(9, "favour(" + p + ", " + q + ")", x.favour(p, q), due[p][q]);
        fails(9, "favour(0, 3)", x, PLACE, () -> x.favour(0, 3));
        fails(9, "favour(-1, 0)", x, PLACE, () -> x.favour(-1, 0));
    }

    private static void grist() {
        LastLoaf x = of(SMALL);
        int[] due = {1, 0, 5, 5};
        for (int s = 0; s < 4; s++) is(10, "grist(" + s + ")", x.grist(s), due[s]);
        fails(10, "grist(4)", x, PLACE, () -> x.grist(4));
        fails(10, "grist(-1)", x, PLACE, () -> x.grist(-1));
    }

    private static void weeks() {
        LastLoaf x = of(SMALL);
        for (int n : new int[] {0, 61, -1}) fails(11, "weeks(" + n + ")", x, ARGUMENT, () -> x.weeks(n));
        is(11, "weeks(1)", x.weeks(1), 0);
        is(11, "FLOUR", x.count(4), 2);
        is(11, "WEEK", x.count(3), 1);
        int[][] due = {{3, 0, 0}, {0, 1, 1}, {0, 0, 0}};
        for (int p = 0; p < 3; p++) {
            is(11, "HUNGER of " + p, x.person(p, 0), due[p][0]);
            is(11, "HAD of " + p, x.person(p, 5), due[p][1]);
            is(11, "RUN of " + p, x.person(p, 6), due[p][2]);
        }
        is(11, "weeks(1)", x.weeks(1), 0);
        is(11, "FLOUR", x.count(4), 0);
        is(11, "RUN of 1", x.person(1, 6), 2);
        is(11, "HUNGER of 0", x.person(0, 0), 4);
    }

    private static void weekEdges() {
        LastLoaf x = of("person hunger 8;person hunger 9;person hunger 8 stands;person hunger 0 stands;flour 1;grist spring 0;grist summer 0");
        is(11, "weeks(1) of a flour for one", x.weeks(1), 2);
        is(51, "bench()", x.bench(), 6);
        is(11, "HUNGER of who had it", x.person(0, 0), 0);
        is(11, "HUNGER of 3 without flour", x.person(3, 0), 1);
        is(52, "crowd() with one on the bench", x.crowd(), 12);
        is(64, "RUNNERS", x.count(8), 8);
        is(64, "VOTERS", x.count(7), 9);
        is(11, "HUNGER on the bench", x.person(1, 0), 9);
        x.weeks(1);
        is(11, "HUNGER on the bench stays", x.person(1, 0), 9);
        is(11, "HUNGER of 0", x.person(0, 0), 1);
        x.weeks(1);
        is(11, "FLOUR of autumn", x.count(4), 3);
        is(11, "RUN of 3", x.person(3, 6), 1);
        x.way(1);
        LastLoaf y = of("person hunger 0 stands;flour 1;grist spring 0;grist summer 0;grist autumn 1");
        y.weeks(1);
        is(11, "RUN", y.person(0, 6), 1);
        y.weeks(1);
        is(11, "RUN of a week without a loaf", y.person(0, 6), 0);
        is(11, "HUNGER of a week without a loaf", y.person(0, 0), 1);
        y.weeks(1);
        is(11, "RUN, begun again", y.person(0, 6), 1);
        is(11, "HAD", y.person(0, 5), 2);
        LastLoaf z = of("flour 999;week 999;grist spring 99;grist summer 99;grist autumn 99;grist winter 99");
        for (int i = 0; i < 150; i++) z.weeks(60);
        is(11, "WEEK", z.count(3), 9999);
        is(11, "FLOUR", z.count(4), 9999);
        z.weeks(1);
        is(11, "WEEK, at most", z.count(3), 9999);
        LastLoaf w = of("person hunger 0 stands");
        for (int i = 0; i < 17; i++) w.weeks(60);
        is(11, "HAD, at most", w.person(0, 5), 999);
        is(11, "RUN, at most", w.person(0, 6), 99);
        is(11, "HUNGER", w.person(0, 0), 0);
        LastLoaf v = of("person hunger 5 stands;person hunger 5 stands;way 0;likes 0 1 9;flour 9", "sway 20 if hunger>4 and other>0");
        v.weeks(1);
        is(11, "the loaf by hunger", v.person(1, 5), 1);
        v.weeks(1);
        is(11, "RUN of the one before", v.person(1, 6), 0);
        is(11, "the next loaf", v.person(0, 5), 1);
        LastLoaf u = of("person hunger 3;person hunger 0 stands;person hunger 0 stands;likes 0 2 9;flour 9", "abstain if hunger>0;abstain if standing");
        u.weeks(1);
        is(11, "who was fed in (b) votes in (c)", u.person(2, 5), 1);
    }

    private static void speeches() {
        // The first draws from 1 are 16838, 5758, 10113, 17515, 31051, 5627.
        LastLoaf x = of(SMALL);
        x.weeks(1);
        is(11, "likes(1, 0) by a speech of 0", x.likes(1, 0), 6);
        is(11, "likes(2, 0) by a speech of 0", x.likes(2, 0), 6);
        is(11, "likes(0, 1)", x.likes(0, 1), 5);
        is(11, "likes(0, 2)", x.likes(0, 2), 5);
        x.weeks(1);
        is(11, "likes(0, 1) by a speech of 1", x.likes(0, 1), 6);
        is(11, "likes(2, 1) by a speech of 1", x.likes(2, 1), 9);
        x.weeks(1);
        is(11, "likes(0, 1) without a speech: 51 of 50", x.likes(0, 1) + x.likes(1, 0), 12);
        x.weeks(1);
        is(11, "likes(1, 0) by 27 and 23010", x.likes(1, 0), 7);
        LastLoaf y = of("person hunger 1;speech 100");
        y.weeks(1);
        is(11, "one draw a week without runners", y.seed(0), 1103527590);
        LastLoaf z = of("person hunger 1 stands;person hunger 1;speech 38");
        z.weeks(1);
        is(11, "no speech by 38 of 38", z.likes(1, 0), 5);
        is(11, "one draw a week without a speech", z.seed(0), 1103527590);
        LastLoaf w = of("person hunger 1 stands;person hunger 9 stands;speech 39;likes 1 0 9;grist spring 0;person hunger 1");
        w.weeks(1);
        is(11, "LIKES of one on the bench, 9 at most", w.likes(1, 0), 9);
        is(11, "LIKES by a speech", w.likes(2, 0), 6);
        is(11, "none speaks from the bench", w.likes(0, 1) + w.likes(2, 1), 10);
    }

    private static void acts() {
        LastLoaf x = of(SMALL);
        is(12, "stand(2, true)", x.stand(2, true), true);
        is(12, "stand(2, true) again", x.stand(2, true), false);
        is(12, "crowd()", x.crowd(), 7);
        is(12, "stand(0, false)", x.stand(0, false), true);
        is(12, "stand(0, false) again", x.stand(0, false), false);
        is(12, "crowd()", x.crowd(), 6);
        fails(12, "stand(3, true)", x, PLACE, () -> x.stand(3, true) ? 1 : 0);
        is(13, "like(0, 1, 9)", x.like(0, 1, 9), 5);
        is(13, "like(0, 1, 0)", x.like(0, 1, 0), 9);
        is(13, "likes(0, 1)", x.likes(0, 1), 0);
        is(13, "likes(1, 0)", x.likes(1, 0), 5);
        fails(13, "like(0, 0, 1)", x, ARGUMENT, () -> x.like(0, 0, 1));
        fails(13, "like(0, 1, 10)", x, ARGUMENT, () -> x.like(0, 1, 10));
        fails(13, "like(0, 1, -1)", x, ARGUMENT, () -> x.like(0, 1, -1));
        fails(13, "like(0, 3, -1)", x, PLACE, () -> x.like(0, 3, -1));
        fails(13, "like(3, 3, 1)", x, PLACE, () -> x.like(3, 3, 1));
        is(14, "join(0, 2)", x.join(0, 2), 0);
        is(14, "join(0, 1)", x.join(0, 1), 2);
        is(14, "PARTY", x.person(0, 1), 1);
        fails(14, "join(0, 3)", x, PLACE, () -> x.join(0, 3));
        fails(14, "join(0, -1)", x, PLACE, () -> x.join(0, -1));
        fails(14, "join(3, 0)", x, PLACE, () -> x.join(3, 0));
        is(15, "bring(1)", x.bring(1), 4);
        is(15, "bring(999)", x.bring(999), 1003);
        for (int n : new int[] {0, 1000, -1}) fails(15, "bring(" + n + ")", x, ARGUMENT, () -> x.bring(n));
        for (int i = 0; i < 9; i++) x.bring(999);
        is(15, "bring(999), at most", x.bring(999), 9999);
        is(16, "way(5)", x.way(5), 0);
        is(16, "way(2)", x.way(2), 5);
        is(16, "WAY", x.count(5), 2);
        fails(16, "way(6)", x, ARGUMENT, () -> x.way(6));
        fails(16, "way(-1)", x, ARGUMENT, () -> x.way(-1));
    }

    private static void passing() {
        LastLoaf x = of("person hunger 0;person hunger 4;person hunger 9;person hunger 0;likes 1 0 8;flour 1;grist spring 0");
        is(17, "pass(0, 1)", x.pass(0, 1), 9);
        is(17, "HUNGER of the first one", x.person(0, 0), 1);
        is(17, "HUNGER of the other one", x.person(1, 0), 0);
        is(17, "likes(1, 0)", x.likes(1, 0), 9);
        is(17, "likes(0, 1)", x.likes(0, 1), 5);
        is(17, "pass(1, 0)", x.pass(1, 0), 6);
        is(17, "pass(0, 1), 9 at most", x.pass(0, 1), 9);
        fails(17, "pass(0, 1) of one with hunger", x, STATE, () -> x.pass(0, 1));
        fails(17, "pass(0, 0)", x, ARGUMENT, () -> x.pass(0, 0));
        fails(17, "pass(4, 4)", x, PLACE, () -> x.pass(4, 4));
        fails(17, "pass(0, 4)", x, PLACE, () -> x.pass(0, 4));
        is(17, "pass(1, 2) to one of hunger 9", x.pass(1, 2), 6);
        x.undo();
        x.weeks(1);
        is(51, "bench()", x.bench(), 4);
        fails(17, "pass(0, 2) to the bench", x, STATE, () -> x.pass(0, 2));
        fails(17, "pass(2, 0) from the bench", x, STATE, () -> x.pass(2, 0));
    }

    private static void bench() {
        LastLoaf x = of("person hunger 9 stands;person hunger 9;person hunger 0;grist spring 0");
        fails(18, "fetch(0)", x, STATE, () -> x.fetch(0));
        fails(18, "fetch(3)", x, PLACE, () -> x.fetch(3));
        is(11, "weeks(1)", x.weeks(1), 2);
        fails(12, "stand(0, true) from the bench", x, STATE, () -> x.stand(0, true) ? 1 : 0);
        is(18, "fetch(0)", x.fetch(0), 1);
        is(18, "HUNGER", x.person(0, 0), 5);
        is(18, "BENCHED", x.person(0, 4), 0);
        is(18, "STANDS as ahead", x.person(0, 3), 1);
        is(18, "fetch(1)", x.fetch(1), 0);
        is(51, "bench()", x.bench(), 0);
    }

    private static void winners() {
        LastLoaf ring = of(RING, RING_LAW);
        for (int way = 0; way < 6; way++) is(19, "winner(" + way + ") of a ring", ring.winner(way), 0);
        fails(19, "winner(6)", ring, ARGUMENT, () -> ring.winner(6));
        fails(19, "winner(-1)", ring, ARGUMENT, () -> ring.winner(-1));
        is(21, "beats(0, 1)", ring.beats(0, 1), true);
        is(21, "beats(1, 0)", ring.beats(1, 0), false);
        is(21, "beats(1, 2)", ring.beats(1, 2), true);
        is(21, "beats(2, 0)", ring.beats(2, 0), true);
        is(21, "beats(0, 3)", ring.beats(0, 3), false);
        is(21, "beats(3, 0)", ring.beats(3, 0), false);
        fails(21, "beats(0, 0)", ring, ARGUMENT, () -> ring.beats(0, 0) ? 1 : 0);
        fails(21, "beats(6, 6)", ring, PLACE, () -> ring.beats(6, 6) ? 1 : 0);
        is(22, "master() of a ring", ring.master(), NONE);
        int[] ranks = {0, 1, 2, NONE};
        for (int k = 0; k < 4; k++) is(20, "rank(3, " + k + ")", ring.rank(3, k), ranks[k]);
        is(20, "rank(3, -1)", ring.rank(3, -1), NONE);
        is(20, "rank(0, 0) of one who abstains", ring.rank(0, 0), NONE);
        fails(20, "rank(6, 0)", ring, PLACE, () -> ring.rank(6, 0));
        // 3: 1 2 0, 4: 0 2 1, 5: 2 1 0
        LastLoaf x = of("person hunger 1 stands;person hunger 1 stands;person hunger 1 stands;person hunger 1;person hunger 1;person hunger 1;"
                + "likes 3 1 9;likes 3 2 8;likes 4 0 9;likes 4 2 8;likes 5 1 8;likes 5 2 9", "abstain if standing");
        int[] due = {0, 2, 2, 2, 1, 2};
        for (int way = 0; way < 6; way++) is(19, "winner(" + way + ")", x.winner(way), due[way]);
        is(19, "winner(5) of two", of(SMALL).winner(5), 1);
        is(22, "master()", x.master(), 2);
        is(22, "master() of one", of("person hunger 1 stands").master(), 0);
        is(22, "master() of none", of("person hunger 1").master(), NONE);
        for (int way = 0; way < 6; way++) {
            is(19, "winner(" + way + ") without voters", of(RING, "abstain").winner(way), 0);
            is(19, "winner(" + way + ") without runners", of("person hunger 1").winner(way), NONE);
            is(19, "winner(" + way + ") of one", of("person hunger 1;person hunger 1 stands").winner(way), 1);
        }
    }

    private static void counting() {
        LastLoaf x = of(RING + ";likes 5 1 7", RING_LAW);
        // 3: 0 1 2, 4: 1 2 0, 5: 2 0 1
        int[] votes = {1, 1, 1, 0, 0, 0};
        int[] points = {3, 3, 3, 0, 0, 0};
        int[] duels = {1, 1, 1, 0, 0, 0};
        for (int p = 0; p < 6; p++) {
            is(7, "VOTES of " + p, x.person(p, 8), votes[p]);
            is(7, "POINTS of " + p, x.person(p, 9), points[p]);
            is(7, "DUELS of " + p, x.person(p, 10), duels[p]);
        }
        x.like(3, 2, 9);
        x.like(3, 0, 8);
        x.like(3, 1, 3);
        // 3: 2 0 1, 4: 1 2 0, 5: 2 0 1
        is(7, "VOTES of 2", x.person(2, 8), 2);
        is(7, "POINTS of 2", x.person(2, 9), 5);
        is(7, "DUELS of 2", x.person(2, 10), 2);
        is(19, "winner(3)", x.winner(3), 2);
        x.stand(2, false);
        is(7, "DUELS of no runner", x.person(2, 10), 0);
        is(7, "VOTES of 0, one more of whom votes", x.person(0, 8), 3);
    }

    private static void ahead() {
        LastLoaf x = of(SMALL);
        is(55, "ahead(0, 2, 0)", x.ahead(0, 2, 0), 4);
        is(55, "ahead(1, 2, 1)", x.ahead(1, 2, 1), 2);
        is(55, "ahead(0, 0, 0)", x.ahead(0, 0, 0), 2);
        is(55, "ahead(0, 7, 2)", x.ahead(0, 7, 2), 1);
        is(55, "ahead(0, 6, 2)", x.ahead(0, 6, 2), 0);
        is(55, "ahead(0, 60, 0)", x.ahead(0, 60, 0), 9);
        fails(55, "ahead(3, 61, 3)", x, PLACE, () -> x.ahead(3, 61, 3));
        fails(55, "ahead(0, 61, 3)", x, ARGUMENT, () -> x.ahead(0, 61, 3));
        fails(55, "ahead(0, -1, 0)", x, ARGUMENT, () -> x.ahead(0, -1, 0));
        fails(55, "ahead(0, 1, 3)", x, ELEMENT, () -> x.ahead(0, 1, 3));
        fails(55, "ahead(0, 1, -1)", x, ELEMENT, () -> x.ahead(0, 1, -1));
        is(55, "nothing stays", x.count(3), 0);
        // By way 0 the loaf is 0's each week and 1 starves; by way 3 nobody beats, which is 0's too; by way 1 it is 1's.
        LastLoaf y = of("person hunger 0 stands;person hunger 8 stands;person hunger 8 stands;person hunger 0;likes 3 0 9;"
                + "likes 1 2 8;likes 2 1 8;likes 3 1 6;likes 0 1 8");
        is(23, "hungry(0, 0)", y.hungry(0, 0), 0);
        is(23, "hungry(0, 1)", y.hungry(0, 1), 2);
        is(23, "hungry(1, 1)", y.hungry(1, 1), 1);
        is(24, "kindest(0)", y.kindest(0), 0);
        is(24, "kindest(1)", y.kindest(1), 1);
        fails(23, "hungry(6, 1)", y, ARGUMENT, () -> y.hungry(6, 1));
        fails(23, "hungry(-1, 1)", y, ARGUMENT, () -> y.hungry(-1, 1));
        fails(23, "hungry(0, 61)", y, ARGUMENT, () -> y.hungry(0, 61));
        fails(23, "hungry(0, -1)", y, ARGUMENT, () -> y.hungry(0, -1));
        fails(24, "kindest(61)", y, ARGUMENT, () -> y.kindest(61));
        fails(24, "kindest(-1)", y, ARGUMENT, () -> y.kindest(-1));
        LastLoaf z = of("person hunger 5 stands;person hunger 5 stands", "spite 20 if hunger<5");
        is(25, "next(0)", z.next(0), 0);
        is(25, "next(1)", z.next(1), 1);
        is(25, "next(2)", z.next(2), 0);
        fails(25, "next(61)", z, ARGUMENT, () -> z.next(61));
        fails(25, "next(-1)", z, ARGUMENT, () -> z.next(-1));
        is(25, "next(60) without runners", of("person hunger 1").next(60), NONE);
    }

    private static void wooing() {
        LastLoaf x = of(RING, RING_LAW);
        is(26, "woo(0)", x.woo(0), 0);
        is(26, "woo(1)", x.woo(1), 8);
        is(26, "woo(2)", x.woo(2), 8);
        is(26, "woo(3)", x.woo(3), NONE);
        is(7, "NEEDED of 1", x.person(1, 11), 1);
        is(7, "NEEDED of 0", x.person(0, 11), 0);
        fails(26, "woo(6)", x, PLACE, () -> x.woo(6));
        fails(26, "woo(-1)", x, PLACE, () -> x.woo(-1));
        LastLoaf y = of(RING, "abstain");
        is(26, "woo(1) without voters", y.woo(1), NONE);
        is(7, "NEEDED without voters", y.person(1, 11), NONE);
        is(26, "woo(0) without voters", y.woo(0), 0);
        LastLoaf z = of("person hunger 1 stands;person hunger 1 stands;person hunger 1;person hunger 1;person hunger 1;person hunger 1");
        is(26, "woo(1) of five for 0", z.woo(1), 1 | 4 | 8);
        // 0 and 1 vote for 2, 3 for 1, 4 and 5 for 0: one of the latter is as good to 1 as both of the first
        LastLoaf w = of("person hunger 1 stands;person hunger 1 stands;person hunger 1 stands;person hunger 1;person hunger 1;person hunger 1",
                "abstain if voter>1 and voter<3;sway 20 if voter<2 and other>1;sway 20 if voter>2 and voter<4 and other>0 and other<2;"
                + "sway 20 if voter>3 and other<1");
        is(26, "woo(1): the fewest, not the least", w.woo(1), 16);
        is(7, "NEEDED of five for 0", z.person(1, 11), 3);
    }

    private static void orders() {
        LastLoaf x = of(RING, RING_LAW);
        is(27, "orders() of a ring", x.orders(), 7);
        int[][] due = {{1, 2, 0}, {0, 2, 1}, {0, 1, 2}};
        for (int p = 0; p < 3; p++) for (int k = 0; k < 3; k++) is(28, "order(" + p + ", " + k + ")", x.order(p, k), due[p][k]);
        is(28, "order(0, 3)", x.order(0, 3), NONE);
        is(28, "order(0, -1)", x.order(0, -1), NONE);
        is(28, "order(3, 0) of no runner", x.order(3, 0), NONE);
        fails(28, "order(6, 0)", x, PLACE, () -> x.order(6, 0));
        x.like(4, 1, 0);
        is(27, "orders() when 1 beats nobody any more", x.orders(), 4);
        is(28, "order(1, 0) when 1 beats nobody any more", x.order(1, 0), NONE);
        LastLoaf y = of(RING, "abstain");
        is(27, "orders() without voters", y.orders(), 7);
        is(28, "order(1, 0) without voters", y.order(1, 0), 1);
        is(28, "order(1, 1) without voters", y.order(1, 1), 0);
        is(27, "orders() of none", of("person hunger 1").orders(), 0);
        is(27, "orders() of one", of("person hunger 1;person hunger 1 stands").orders(), 2);
        LastLoaf z = of(SMALL);
        is(27, "orders() with a master", z.orders(), 2);
        is(28, "order(0, 0) of one who cannot", z.order(0, 0), NONE);
        is(28, "order(1, 0)", z.order(1, 0), 0);
    }

    private static void turns() {
        LastLoaf x = of("person hunger 7 stands;person hunger 8 stands;person hunger 0;grist spring 2;grist summer 2");
        is(29, "rota(0, NONE)", x.rota(0, NONE), 0);
        is(29, "rota(0, 0)", x.rota(0, 0), NONE);
        is(29, "rota(1, NONE)", x.rota(1, NONE), 0);
        is(29, "rota(1, 0)", x.rota(1, 0), 1);
        is(29, "rota(2, NONE)", x.rota(2, NONE), 0);
        is(29, "rota(2, 0)", x.rota(2, 0), 1);
        is(29, "rota(2, 1)", x.rota(2, 1), 0);
        is(29, "rota(2, 2)", x.rota(2, 2), NONE);
        is(29, "rota(2, -2)", x.rota(2, -2), NONE);
        fails(29, "rota(6, 0)", x, ARGUMENT, () -> x.rota(6, 0));
        fails(29, "rota(-1, 0)", x, ARGUMENT, () -> x.rota(-1, 0));
        LastLoaf y = of("person hunger 8 stands;person hunger 8 stands;person hunger 8 stands;flour 1;grist spring 0;grist summer 0");
        is(29, "rota(1, NONE)", y.rota(1, NONE), 2);
        is(29, "rota(1, 0)", y.rota(1, 0), 0);
        is(29, "rota(5, NONE)", y.rota(5, NONE), 2);
        is(29, "rota(5, 0)", y.rota(5, 0), 0);
        is(29, "rota(5, 1) without flour", y.rota(5, 1), NONE);
        y.weeks(1);
        is(29, "rota(1, NONE) with the bench", y.rota(1, NONE), 2);
        LastLoaf z = of("person hunger 8 stands;person hunger 8;flour 1;grist spring 0");
        is(29, "rota(1, NONE): flour is 1's ahead", z.rota(1, NONE), 1);
        is(29, "rota(1, 0) without flour", z.rota(1, 0), NONE);
        LastLoaf w = of("person hunger 8;person hunger 8;person hunger 7 stands;flour 1;grist spring 0;grist summer 1");
        is(29, "rota(1, NONE): flour for one of two", w.rota(1, NONE), 1);
        is(29, "rota(2, NONE): 0 eats and none is left", w.rota(2, NONE), 2);
        is(29, "rota(2, 1) without flour", w.rota(2, 1), NONE);
        LastLoaf v = of("person hunger 8 stands;person hunger 7 stands;flour 1;grist spring 0;grist summer 0");
        is(29, "rota(2, NONE): a loaf is gone when it is eaten", v.rota(2, NONE), 1);
        is(29, "rota(2, 0)", v.rota(2, 0), NONE);
        is(29, "rota(2, 1)", v.rota(2, 1), 1);
    }

    private static void flour() {
        LastLoaf x = of(SMALL);
        is(30, "lasts()", x.lasts(), 2);
        is(30, "lasts() now", new LastLoaf().lasts(), 0);
        is(30, "lasts() of nobody", of("flour 1").lasts(), NONE);
        String none = ";grist spring 0;grist summer 0;grist autumn 0;grist winter 0";
        is(30, "lasts() to the last week", of("person hunger 0;flour 60" + none).lasts(), 60);
        is(30, "lasts() past the last week", of("person hunger 0;flour 61" + none).lasts(), NONE);
        is(32, "starves(false) in the last week", of("person hunger 0;flour 51" + none).starves(false), 60);
        is(32, "starves(true) in the last week", of("person hunger 0;flour 51" + none).starves(true), 0);
        is(32, "starves(false) past the last week", of("person hunger 0;flour 52" + none).starves(false), NONE);
        is(31, "mill(1) of a loaf for each", of("person hunger 8;person hunger 8;person hunger 8;person hunger 8;person hunger 8;person hunger 8" + none).mill(1), 6);
        // A speech of 0 in the first week would turn the vote of 2 from 1, who is fed else.
        LastLoaf talk = of("person hunger 2 stands;person hunger 7 stands;person hunger 0;likes 2 1 6;speech 100;flour 9;grist summer 0");
        is(56, "trial(7, false): 0 speaks", talk.trial(7, false) == 1, false);
        is(32, "starves(false) without speeches", talk.starves(false), 7);
        is(32, "starves(true) without speeches", talk.starves(true), 0);
        is(31, "mill(6) without speeches", talk.mill(6), 0);
        is(31, "mill(7) without speeches", talk.mill(7), NONE);
        is(32, "starves(false)", x.starves(false), 7);
        is(32, "starves(true)", x.starves(true), 0);
        LastLoaf y = of("person hunger 8;person hunger 8;person hunger 2 stands;grist spring 0;grist summer 0;grist autumn 0;grist winter 0;flour 1");
        is(32, "starves(false)", y.starves(false), 1);
        is(32, "starves(true)", y.starves(true), 1);
        is(31, "mill(1)", y.mill(1), 1);
        is(31, "mill(8)", y.mill(8), 2);
        is(31, "mill(60)", y.mill(60), 3);
        for (int n : new int[] {0, 61, -1}) fails(31, "mill(" + n + ")", y, ARGUMENT, () -> y.mill(n));
        y.weeks(1);
        is(32, "starves(true) of one more", y.starves(true), 2);
        is(32, "starves(false) of one more", y.starves(false), 6);
        is(31, "mill(60) with one on the bench", y.mill(60), 2);
        is(31, "mill(60) that no grist does", of("person hunger 1 stands;person hunger 1 stands").mill(60), NONE);
        is(31, "mill(8) that all grist does", of("person hunger 0 stands;person hunger 0 stands").mill(8), 0);
        is(32, "starves(false) of none", of("person hunger 8").starves(false), NONE);
        is(32, "starves(true) of none", of("person hunger 8").starves(true), NONE);
    }

    private static int ballots(LastLoaf x, int... bytes) { told(x, bytes); return x.ballots(); }
    private static int sure(LastLoaf x, int person, int... bytes) { told(x, bytes); return x.sure(person); }
    private static int ask(LastLoaf x, int... bytes) { told(x, bytes); return x.ask(); }

    private static void told(LastLoaf x, int... bytes) {
        byte[] b = new byte[bytes.length];
        for (int i = 0; i < b.length; i++) b[i] = (byte) bytes[i];
        tell(x, b);
    }

    private static void ballots() {
        LastLoaf x = of("person hunger 1 stands;person hunger 1 stands;person hunger 1;person hunger 1;likes 0 1 3;likes 1 0 3;likes 2 0 4;likes 3 0 3");
        // 0 for 0, 1 for 1, 2 for either, 3 for 1
        is(33, "ballots()", ballots(x), 2);
        is(33, "ballots() of 0 with 1", ballots(x, 0, 1), 1);
        is(33, "ballots() of 0 with 2", ballots(x, 0, 2), 1);
        is(33, "ballots() of 0 with 3", ballots(x, 0, 3), 0);
        is(33, "ballots() of 0 with 0", ballots(x, 0, 0), 0);
        is(33, "ballots() of both", ballots(x, 0, 2, 1, 2), 1);
        is(33, "ballots() told twice", ballots(x, 0, 2, 0, 2), 1);
        is(33, "ballots() told against one another", ballots(x, 0, 1, 0, 2), 0);
        is(33, "ballots() of more votes than voters", ballots(x, 0, 6, 1, 6), 0);
        is(34, "sure(0)", sure(x, 0), 0);
        is(34, "sure(2)", sure(x, 2), NONE);
        is(34, "sure(2) of 0 with 2", sure(x, 2, 0, 2), 0);
        is(34, "sure(2) of 0 with 1", sure(x, 2, 0, 1), 1);
        is(34, "sure(0) without ways", sure(x, 0, 0, 3), NONE);
        is(35, "ask()", ask(x), 2);
        is(35, "ask() of one way", ask(x, 0, 1), NONE);
        int[][] bad = {{0}, {0, 7}, {2, 1}, {4, 1}, {200, 1}, {0, 1, 1}, new int[42]};
        for (int[] b : bad) {
            String what = java.util.Arrays.toString(b);
            told(x, b);
            fails(33, "ballots() of " + what, x, ARGUMENT, () -> x.ballots());
            is(33, "the tape is used up", x.end(1), false);
            told(x, b);
            fails(34, "sure(0) of " + what, x, ARGUMENT, () -> x.sure(0));
            is(34, "the tape is used up", x.end(1), false);
            told(x, b);
            fails(34, "sure(4) of " + what, x, PLACE, () -> x.sure(4));
            is(34, "the tape is used up", x.end(1), false);
            told(x, b);
            fails(35, "ask() of " + what, x, ARGUMENT, () -> x.ask());
            is(35, "the tape is used up", x.end(1), false);
        }
        is(33, "ballots() of 40 bytes", ballots(x, new int[40]), 0);
        x.stand(0, false);
        x.stand(1, false);
        is(33, "ballots() without runners", ballots(x), 0);
        is(33, "ballots() of nobody", ballots(new LastLoaf()), 1);
        LastLoaf y = of(RING, "abstain");
        is(33, "ballots() without voters", ballots(y), 1);
        is(33, "ballots() without voters of 0 with 1", ballots(y, 0, 1), 0);
        is(34, "sure(0) of no voter", sure(y, 0), NONE);
        LastLoaf z = of("person hunger 1 stands;person hunger 1 stands;person hunger 1 stands;person hunger 1 stands;person hunger 1 stands;person hunger 1 stands");
        is(33, "ballots(), at most", ballots(z), 9999);
        is(33, "ballots() of all told", ballots(z, 0, 2, 1, 2, 2, 2, 3, 0, 4, 0, 5, 0), 90);
        is(33, "ballots() of all with one", ballots(z, 0, 1, 1, 1, 2, 1, 3, 1, 4, 1, 5, 1), 720);
        is(33, "ballots() of five told", ballots(z, 0, 1, 1, 1, 2, 1, 3, 1, 4, 1), 720);
        is(33, "ballots() of five of six", ballots(z, 0, 5), 30);
        is(35, "ask() of like ones", ask(z), 0);
        // 0 for three, the others for any: 0 parts the ways best only where it is not bound
        LastLoaf w = of("person hunger 1 stands;person hunger 1 stands;person hunger 1 stands;likes 0 1 3;likes 0 2 3;likes 1 2 3");
        is(33, "ballots()", ballots(w), 6);
        is(35, "ask()", ask(w), 2);
        is(35, "ask() of 2 with 0", ask(w, 2, 0), 1);
    }

    private static void houses() {
        LastLoaf x = of("person hunger 1 party crust stands;person hunger 1 party crust;person hunger 1 party crumb;person hunger 1;likes 1 0 9;flour 9");
        is(36, "carries(0)", x.carries(0), false);
        is(36, "carries(3)", x.carries(3), false);
        is(36, "carries(7)", x.carries(7), true);
        is(36, "carries(48) of nobody", x.carries(48), false);
        is(36, "carries(-1)", x.carries(-1), true);
        is(38, "smallest()", x.smallest(), 7);
        is(37, "swings(0)", x.swings(0), 3);
        is(40, "kingmaker()", x.kingmaker(), 0);
        is(39, "bloc(0)", x.bloc(0), 2);
        x.weeks(1);
        // 0 counts 2 now, five in all
        is(36, "carries(3)", x.carries(3), true);
        is(36, "carries(6)", x.carries(6), false);
        is(36, "carries(14)", x.carries(14), true);
        is(38, "smallest()", x.smallest(), 3);
        is(37, "swings(0)", x.swings(0), 6);
        is(37, "swings(3)", x.swings(3), 2);
        is(39, "bloc(0)", x.bloc(0), 3);
        is(39, "bloc(1)", x.bloc(1), 1);
        is(39, "bloc(2)", x.bloc(2), 1);
        fails(39, "bloc(3)", x, PLACE, () -> x.bloc(3));
        fails(39, "bloc(-1)", x, PLACE, () -> x.bloc(-1));
        fails(37, "swings(4)", x, PLACE, () -> x.swings(4));
        fails(37, "swings(-1)", x, PLACE, () -> x.swings(-1));
        LastLoaf y = of("person hunger 9 stands;person hunger 1 stands;person hunger 1 stands;grist spring 0");
        y.weeks(1);
        is(37, "swings(0) from the bench", y.swings(0), 0);
        is(37, "swings(1)", y.swings(1), 1);
        is(36, "carries(3) of one on the bench", y.carries(3), false);
        is(38, "smallest() without the bench", y.smallest(), 6);
        is(40, "kingmaker() without the bench", y.kingmaker(), 1);
        is(39, "bloc(2) without the bench", y.bloc(2), 2);
        is(38, "smallest() of nobody", new LastLoaf().smallest(), NONE);
        is(40, "kingmaker() of nobody", new LastLoaf().kingmaker(), NONE);
        LastLoaf z = of("person hunger 9 stands;grist spring 0");
        z.weeks(1);
        is(38, "smallest() of the bench alone", z.smallest(), NONE);
        is(40, "kingmaker() of the bench alone", z.kingmaker(), NONE);
    }

    private static void friends() {
        LastLoaf x = of("person hunger 1;person hunger 1;person hunger 1;person hunger 1;likes 0 2 9;likes 1 3 8;likes 0 1 1;likes 2 3 0");
        // 01: 6, 02: 14, 03: 10, 12: 10, 13: 13, 23: 5
        is(41, "couples(NONE)", x.couples(NONE), 27);
        int[] with = {2, 3, 0, 1};
        for (int p = 0; p < 4; p++) is(41, "couples(" + p + ")", x.couples(p), with[p]);
        fails(41, "couples(4)", x, PLACE, () -> x.couples(4));
        fails(41, "couples(-2)", x, PLACE, () -> x.couples(-2));
        is(42, "camps()", x.camps(), 8);
        is(43, "table(NONE)", x.table(NONE), 14 + 10 + 13 + 10);
        int[] seats = {0, 2, 1, 3, NONE};
        for (int k = 0; k < 5; k++) is(43, "table(" + k + ")", x.table(k), seats[k]);
        is(43, "table(-2)", x.table(-2), NONE);
        LastLoaf y = of("person hunger 1;person hunger 1;likes 0 1 0;likes 1 0 0");
        is(41, "couples(NONE) of no friends", y.couples(NONE), 0);
        is(41, "couples(0) of no friends", y.couples(0), NONE);
        is(42, "camps() of two", y.camps(), 2);
        is(43, "table(NONE) of no friends", y.table(NONE), 0);
        is(43, "table(1)", y.table(1), 1);
        y.like(0, 1, 4);
        is(43, "table(NONE) of two", y.table(NONE), 4);
        LastLoaf z = of("person hunger 1;person hunger 1;person hunger 1");
        is(41, "couples(NONE) of three", z.couples(NONE), 10);
        is(41, "couples(0), none being the least", z.couples(0), NONE);
        is(41, "couples(1)", z.couples(1), 2);
        is(42, "camps() of three", z.camps(), 2);
        is(43, "table(NONE) of three", z.table(NONE), 30);
        LastLoaf one = of("person hunger 1");
        is(42, "camps() of one", one.camps(), NONE);
        is(43, "table(NONE) of one", one.table(NONE), 0);
        is(43, "table(0) of one", one.table(0), 0);
        is(43, "table(0) of nobody", new LastLoaf().table(0), NONE);
        is(43, "table(NONE) of nobody", new LastLoaf().table(NONE), 0);
        is(41, "couples(NONE) of nobody", new LastLoaf().couples(NONE), 0);
    }

    private static void slices() {
        LastLoaf x = of("person hunger 0;person hunger 3;person hunger 4");
        int[][] due = {{0, 0, 0}, {1, 0, 0}, {1, 0, 1}, {1, 1, 1}, {1, 1, 2}, {1, 2, 2}, {1, 2, 3}, {0, 3, 4}, {1, 3, 4}};
        for (int n = 0; n < due.length; n++) for (int p = 0; p < 3; p++) is(44, "slices(" + p + ", " + n + ")", x.slices(p, n), due[n][p]);
        is(44, "slices(2, 999)", x.slices(2, 999), 570);
        is(44, "slices(1, 999)", x.slices(1, 999), 428);
        is(44, "slices(0, 999)", x.slices(0, 999), 1);
        fails(44, "slices(3, 1000)", x, PLACE, () -> x.slices(3, 1000));
        fails(44, "slices(0, 1000)", x, ARGUMENT, () -> x.slices(0, 1000));
        fails(44, "slices(0, -1)", x, ARGUMENT, () -> x.slices(0, -1));
        is(44, "slices(0, 9) of nobody hungry", of("person hunger 0").slices(0, 9), 0);
    }

    private static void rings() {
        LastLoaf x = of("person hunger 1;person hunger 1;person hunger 1;person hunger 1;likes 0 1 9;likes 1 2 9;likes 2 0 9;likes 3 0 9");
        boolean[] due = {true, true, true, false};
        for (int p = 0; p < 4; p++) is(45, "ring(" + p + ")", x.ring(p), due[p]);
        is(45, "ring(0) of one", of("person hunger 1").ring(0), false);
        fails(45, "ring(4)", x, PLACE, () -> x.ring(4) ? 1 : 0);
        fails(45, "ring(-1)", x, PLACE, () -> x.ring(-1) ? 1 : 0);
        LastLoaf y = of("person hunger 0 stands;person hunger 9 stands;person hunger 3 stands;grist spring 0");
        is(7, "WOULD PASS by hunger", y.person(0, 13), 1);
        y.weeks(1);
        is(7, "WOULD PASS, not to the bench", y.person(0, 13), 2);
        is(7, "WOULD PASS from the bench", y.person(1, 13), 2);
        is(45, "ring(1) from the bench", y.ring(1), false);
        is(45, "ring(0)", y.ring(0), true);
    }

    private static void rests() {
        LastLoaf x = of("person hunger 1 stands;person hunger 1 skin 9;person hunger 1 skin 7;person hunger 1 skin 8;likes 1 0 9;likes 2 0 4;likes 3 0 5");
        // 1: 4 or 3 by speaking, 0 or 1 of heckling: speaks, unheckled
        is(46, "rests(0, 1)", x.rests(0, 1), 2);
        // 2: -1 by speaking heckled, 2 or 1 of heckling; silent, -2 or 0: no rest
        is(46, "rests(0, 2)", x.rests(0, 2), 0);
        // 3: 0 by speaking heckled as by silence, 1 either way
        is(46, "rests(0, 3)", x.rests(0, 3), 3);
        x.like(3, 0, 0);
        is(46, "rests(0, 3)", x.rests(0, 3), 2);
        fails(46, "rests(0, 0)", x, ARGUMENT, () -> x.rests(0, 0));
        fails(46, "rests(1, 1)", x, ARGUMENT, () -> x.rests(1, 1));
        fails(46, "rests(1, 0)", x, STATE, () -> x.rests(1, 0));
        fails(46, "rests(4, 4)", x, PLACE, () -> x.rests(4, 4));
        fails(46, "rests(0, -1)", x, PLACE, () -> x.rests(0, -1));
    }

    private static void odds() {
        LastLoaf x = of("speech 50");
        is(47, "odds(2, 1)", x.odds(2, 1), 7500);
        is(47, "odds(2, 2)", x.odds(2, 2), 2500);
        is(47, "odds(6, 6)", x.odds(6, 6), 156);
        is(47, "odds(6, 3)", x.odds(6, 3), 6562);
        is(47, "odds(0, 0)", x.odds(0, 0), 10000);
        is(47, "odds(1, 2)", x.odds(1, 2), 0);
        is(47, "odds(6, 1) of 10", of("speech 10").odds(6, 1), 4685);
        is(47, "odds(6, 6) of 100", of("speech 100").odds(6, 6), 10000);
        is(47, "odds(6, 1) of 0", of("speech 0").odds(6, 1), 0);
        is(47, "odds(3, 2) of 33", of("speech 33").odds(3, 2), 2548);
        for (int n : new int[] {7, -1}) {
            fails(47, "odds(" + n + ", 0)", x, ARGUMENT, () -> x.odds(n, 0));
            fails(47, "odds(0, " + n + ")", x, ARGUMENT, () -> x.odds(0, n));
        }
    }

    private static void sets() {
        LastLoaf x = of("person hunger 7 skin 1 stands;person hunger 9;person hunger 7 skin 1 stands;grist spring 0;grist summer 9;likes 0 2 8;likes 1 2 6;likes 1 0 9");
        is(48, "hungriest()", x.hungriest(), 1);
        is(49, "loved()", x.loved(), 0);
        is(54, "alike()", x.alike(), 1);
        is(53, "never()", x.never(), 7);
        is(52, "crowd()", x.crowd(), 5);
        x.weeks(1);
        is(51, "bench()", x.bench(), 2);
        is(48, "hungriest() without the bench", x.hungriest(), 0);
        is(48, "hungriest() of nobody", new LastLoaf().hungriest(), NONE);
        is(49, "loved() of nobody", new LastLoaf().loved(), NONE);
        is(49, "loved() of one", of("person hunger 1").loved(), 0);
        x.weeks(1);
        is(53, "never()", x.never(), 6);
        LastLoaf y = of("person hunger 1 skin 1 stands;person hunger 1 stands;flour 9");
        y.weeks(2);
        is(50, "thick() of skin", y.thick(), 0);
        y.stand(0, false);
        y.weeks(1);
        is(50, "thick() of one", y.thick(), 0);
        y.weeks(1);
        is(50, "thick() of two", y.thick(), 2);
        y.weeks(1);
        is(50, "thick() of three", y.thick(), 2);
        is(54, "alike() by skin", y.alike(), 0);
        LastLoaf z = of("person hunger 1 party crust;person hunger 1 party crust;person hunger 1;person hunger 1;person hunger 1 party crumb");
        is(54, "alike() by party", z.alike(), 2);
    }

    private static void trials() {
        LastLoaf x = of(SMALL);
        is(56, "trial(0, true)", x.trial(0, true), 12);
        is(56, "trial(1, true)", x.trial(1, true), 3);
        is(56, "trial(7, false)", x.trial(7, false), 1);
        is(56, "nothing stays", x.count(3), 0);
        is(56, "nor do draws", x.seed(1), 1);
        fails(56, "trial(61, true)", x, ARGUMENT, () -> x.trial(61, true));
        fails(56, "trial(-1, true)", x, ARGUMENT, () -> x.trial(-1, true));
        fails(57, "span(61, true)", x, ARGUMENT, () -> x.span(61, true));
        fails(57, "span(-1, true)", x, ARGUMENT, () -> x.span(-1, true));
        is(57, "span(0, false)", x.span(0, false), 0);
        is(57, "span(60, true)", x.span(60, true), 1);
        // A speech in the first week turns the vote of 2 in the second one: 1 starves unless it is 1 who speaks.
        LastLoaf y = of("person hunger 3 stands;person hunger 7 stands;person hunger 0;flour 99;speech 100");
        int least = 9, most = 0;
        for (int s = 1; s <= 6; s++) {
            y.seed(s);
            int n = Integer.bitCount(y.trial(2, false));
            least = Math.min(least, n);
            most = Math.max(most, n);
        }
        is(57, "span(2, false)", y.span(2, false), least);
        is(57, "span(2, true)", y.span(2, true), most);
        is(57, "draws are of use", least < most, true);
        spans();
    }

    /** In some of these villages the sixth seed alone, or the seventh, goes further than those before. */
    private static void spans() {
        int sixth = 0, seventh = 0;
        for (int hunger = 3; hunger < 9; hunger++) {
            for (int n = 0; n < 20; n++) {
                LastLoaf x = of("person hunger " + hunger + " stands;person hunger 6 stands;person hunger 5 stands;person hunger 0;person hunger 0;person hunger 0;"
                        + "speech 70;likes 3 1 6;likes 4 2 6", "spite 3 if run>0;sway 1 if hunger>4");
                int least = 9, most = 0;
                for (int s = 1; s <= 7; s++) {
                    x.seed(s);
                    int benched = Integer.bitCount(x.trial(n, false));
                    if (s == 6 && (benched < least || benched > most)) sixth++;
                    if (s == 7 && (benched < least || benched > most)) seventh++;
                    if (s < 7) least = Math.min(least, benched);
                    if (s < 7) most = Math.max(most, benched);
                }
                is(57, "span(" + n + ", false)", x.span(n, false), least);
                is(57, "span(" + n + ", true)", x.span(n, true), most);
            }
        }
        is(57, "there are villages for the sixth seed", sixth > 0, true);
        is(57, "there are villages for the seventh seed", seventh > 0, true);
    }

    private static void log() {
        LastLoaf x = of("person hunger 8 stands;person hunger 8 stands;person hunger 0;likes 2 1 9;flour 9;week 5");
        is(59, "log(0, 0) of nothing", x.log(0, 0), NONE);
        is(58, "led(0, false) of nothing", x.led(0, false), 0);
        is(58, "led(0, true) of nothing", x.led(0, true), NONE);
        x.weeks(2);
        int[][] due = {{6, 0, 1, 2}, {5, 1, 0, 0}, {5, 0, 1, 2}, {NONE, NONE, NONE, NONE}};
        for (int ago = 0; ago < 4; ago++) for (int what = 0; what < 4; what++) is(59, "log(" + ago + ", " + what + ")", x.log(ago, what), due[ago][what]);
        is(59, "log(-1, 0)", x.log(-1, 0), NONE);
        is(64, "rows", x.count(11), 3);
        fails(59, "log(0, 4)", x, ELEMENT, () -> x.log(0, 4));
        fails(59, "log(0, -1)", x, ELEMENT, () -> x.log(0, -1));
        fails(59, "log(99, 4)", x, ELEMENT, () -> x.log(99, 4));
        is(58, "led(1, false)", x.led(1, false), 2);
        is(58, "led(1, true)", x.led(1, true), 6);
        is(58, "led(0, false)", x.led(0, false), 1);
        is(58, "led(0, true)", x.led(0, true), 5);
        fails(58, "led(3, true)", x, PLACE, () -> x.led(3, true));
        fails(58, "led(-1, true)", x, PLACE, () -> x.led(-1, true));
        x.bring(99);
        x.weeks(57);
        is(64, "rows", x.count(11), 60);
        is(59, "log(59, 0)", x.log(59, 0), 5);
        x.weeks(2);
        is(64, "rows, at most", x.count(11), 60);
        is(59, "log(59, 0), the oldest being gone", x.log(59, 0), 6);
        is(59, "log(60, 0)", x.log(60, 0), NONE);
        is(59, "log(0, 0)", x.log(0, 0), 65);
        is(58, "led(0, true) of the row that is gone", x.led(0, true), NONE);
    }

    private static void undoing() {
        LastLoaf x = of(SMALL);
        String[] was = new String[15];
        for (int i = 0; i < 15; i++) {
            was[i] = all(x);
            switch (i % 7) {
                case 0: x.weeks(3); break;
                case 1: x.stand(2, i < 7); break;
                case 2: x.like(0, 1, i % 10); break;
                case 3: x.join(1, i % 3); break;
                case 4: x.bring(5); break;
                case 5: x.way(i % 6); break;
                default: x.pass(fed(x), (fed(x) + 1) % 2); break;
            }
            x.seed(i);
            is(64, "acts that can be undone", x.count(12), Math.min(12, i + 1));
        }
        for (int i = 14; i >= 3; i--) {
            is(61, "undo() of act " + i, x.undo(), true);
            String got = all(x);
            // Fewer acts were forgotten then than now.
            is(61, "all is as ahead of act " + i, got.replaceFirst("^((\\S+ ){12})\\S+", "$1").equals(was[i].replaceFirst("^((\\S+ ){12})\\S+", "$1")), true);
        }
        is(61, "undo() of the thirteenth", x.undo(), false);
        x.stand(0, x.person(0, 3) == 1);
        is(61, "an act that changed nothing", x.undo(), true);
        x.bring(1);
        tell(x, "x");
        fails(4, "village() of x", x, ARGUMENT, () -> x.village());
        is(61, "a wrong text is no text", x.count(12), 1);
        tell(x, "way 1");
        x.feed(0, 0, 0, 0, 0);
        is(61, "undo()", x.undo(), true);
        is(61, "the tape stays", x.end(25), true);
        is(61, "fault() stays", x.fault(), 0);
        x.end(0);
        x.bring(1);
        tell(x, "flour 5");
        x.village();
        is(61, "undo() behind a text of the village", x.undo(), false);
        x.bring(1);
        tell(x, "sway 1");
        x.law();
        is(61, "undo() behind a law", x.undo(), false);
        x.fetch(benchOne(x));
        is(61, "undo() of a fetch", x.undo(), true);
        is(61, "BENCHED again", x.bench() != 0, true);
        x.seed(4);
        x.weeks(9);
        x.seed(5);
        x.undo();
        is(61, "SEED as ahead of the act", x.seed(0), 4);
    }

    private static int fed(LastLoaf x) {
        for (int p = 0; p < x.count(0); p++) if (x.person(p, 0) == 0) return p;
        throw new AssertionError("nobody is fed");
    }

    private static int benchOne(LastLoaf x) {
        for (int i = 0; i < 9 && x.bench() == 0; i++) x.weeks(9);
        return Integer.numberOfTrailingZeros(x.bench());
    }

    private static void images() {
        LastLoaf x = of(SMALL, "sway 2 if other<1");
        x.weeks(3);
        x.image();
        is(62, "acts that can be undone", x.count(12), 1);
        String was = all(x);
        x.weeks(60);
        tell(x, "person hunger 1;flour 7;grist winter 0;speech 1");
        x.village();
        tell(x, "spite 9;abstain");
        x.law();
        x.like(0, 1, 9);
        x.join(0, 2);
        x.seed(77);
        tell(x, "flour x");
        fails(4, "village() of flour x", x, ARGUMENT, () -> x.village());
        x.feed(0, 0, 0, 0, 0);
        is(63, "back()", x.back(), true);
        is(63, "undo() behind it", x.count(12), 0);
        is(63, "all is as it was", all(x).replaceFirst("^((\\S+ ){12})\\S+", "$1").equals(was.replaceFirst("^((\\S+ ){12})\\S+", "$1")), true);
        is(63, "undo()", x.undo(), false);
        is(63, "the tape stays", x.end(20), true);
        is(63, "fault() stays", x.fault(), 6);
        x.end(0);
        x.bring(3);
        is(63, "back() again", x.back(), true);
        is(63, "FLOUR", x.count(4), Integer.parseInt(was.split(" ")[4]));
        x.bring(3);
        x.image();
        x.undo();
        x.back();
        is(62, "the latest image", x.count(4), Integer.parseInt(was.split(" ")[4]) + 3);
        LastLoaf y = of(SMALL);
        y.image();
        tell(y, "");
        y.law();
        y.back();
        is(63, "no law again", y.count(2), NONE);
        is(63, "favour(0, 1) without a law", y.favour(0, 1), 7);
    }

    private static void counts() {
        LastLoaf x = of(SMALL, "sway 1;abstain if voter>1");
        x.weeks(2);
        int[] due = {3, 1, 2, 2, 0, 0, 50, 3, 3, 6, 2, 2, 1, NONE};
        // 0 has it by the first vote of two alike, then again
        due[9] = x.person(0, 0) + x.person(1, 0) + x.person(2, 0);
        for (int what = 0; what < due.length; what++) is(64, "count(" + what + ")", x.count(what), due[what]);
        is(64, "count(-1)", x.count(-1), NONE);
        is(64, "count(9)", x.count(9), 6);
        is(60, "seed(9)", x.seed(9) != 1, true);
        is(60, "seed(-5)", x.seed(-5), 9);
        is(60, "seed(1)", x.seed(1), -5);
        is(60, "seed is no act", x.count(12), 1);
    }
}
