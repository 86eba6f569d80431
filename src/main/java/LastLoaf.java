import java.util.Arrays;
import java.util.NoSuchElementException;

/** A hungry village that votes, week by week, on who has the last loaf. */
public final class LastLoaf {
    public static final int NONE = -1;

    private static final int PEOPLE_MOST = 6;
    private static final int PAIRS = PEOPLE_MOST * PEOPLE_MOST;
    private static final int SETS = 1 << PEOPLE_MOST;
    private static final int SEASONS = 4;
    private static final int PARTIES = 3;
    private static final int NEITHER = 2;
    private static final int WAYS = 6;
    private static final int LIKING_MOST = 9;
    private static final int LIKING_FIRST = 5;
    private static final int HUNGER_MOST = 9;
    private static final int HUNGER_FETCHED = 5;
    private static final int SKIN_MOST = 9;
    private static final int HAD_MOST = 999;
    private static final int RUN_MOST = 99;
    private static final int FLOUR_MOST = 9999;
    private static final int FLOUR_TOLD_MOST = 999;
    private static final int GRIST_MOST = 99;
    private static final int GRIST_FIRST = 5;
    private static final int SPEECH_MOST = 100;
    private static final int WEEK_MOST = 9999;
    private static final int WEEK_TOLD_MOST = 999;
    private static final int AHEAD_MOST = 60;
    private static final int TEXTS_MOST = 12;
    private static final int VILLAGE_LINES_MOST = 14;
    private static final int LAW_LINES_MOST = 12;
    private static final int SWAY_MOST = 20;
    private static final int DEPTH_MOST = 6;
    private static final int TAPE_MOST = 400;
    private static final int FEED_BYTES = 20;
    private static final int DIGITS_MOST = 3;
    private static final int LOG_ROWS = 60;
    private static final int LOG_COLUMNS = 4;
    private static final int LAST_LOAF = 0;
    private static final int CAME_TO_BENCH = 1;
    private static final int ACTS_MOST = 12;
    private static final int TURNS_MOST = 5;
    private static final int BALLOT_BYTES_MOST = 40;
    private static final int BALLOT_VOTES_MOST = 6;
    private static final int BALLOT_LIKING_LEAST = 4;
    private static final int WAYS_TOLD_MOST = 9999;
    private static final int ODDS_MOST = 6;
    private static final int SLICES_MOST = 999;
    private static final int SPAN_SEEDS = 6;

    private static final int KIND_END = 0;
    private static final int KIND_WORD = 1;
    private static final int KIND_NUMBER = 2;
    private static final int KIND_SIGN = 3;

    // The law's code: below PART_FIRST a number stands for itself.
    private static final int PART_FIRST = 1000;
    private static final int PART_VOTER = 1000;
    private static final int PART_OTHER = 1001;
    private static final int PART_LIKES = 1002;
    private static final int PART_HUNGER = 1003;
    private static final int PART_HAD = 1004;
    private static final int PART_RUN = 1005;
    private static final int PART_SKIN = 1006;
    private static final int PART_SAME = 1007;
    private static final int PART_STANDING = 1008;
    private static final int PARTS = 9;
    private static final int SIGN_ADD = 1100;
    private static final int SIGN_LESS = 1101;
    private static final int SIGN_MORE = 1102;
    private static final int SIGN_AND = 1103;
    private static final int SIGN_OR = 1104;
    private static final int SIGN_NOT = 1105;
    private static final int SIGN_OPEN = 1106;
    private static final int LINE_SWAY = 2000;
    private static final int LINE_SPITE = 3000;
    private static final int LINE_ABSTAIN = 4000;
    // Each byte of a text leads to at most one code, but for a line's end.
    private static final int CODE_MOST = TAPE_MOST + LAW_LINES_MOST;
    // Two sums and, on each of the seven levels, an "or" and an "and" may wait.
    private static final int STACK_MOST = 32;

    private final Tape tape = new Tape();
    private final Village now = new Village();
    private final Village spare = new Village();
    private final Law lawNow = new Law();
    private final Law draft = new Law();
    private final Reader reader = new Reader(tape, spare, draft);
    private final Village imageVillage = new Village();
    private final Law imageLaw = new Law();
    private final Past past = new Past();
    private final Poll poll = new Poll();
    private final Baker baker = new Baker(poll, lawNow);
    private final Turns turns = new Turns();
    private final SecretBallots secrets = new SecretBallots();
    private final Friends friends = new Friends();
    private boolean imageKept = false;
    private int faultAt = NONE;

    public LastLoaf() {
    }

    public int feed(int a, int b, int c, int d, int e) {
        if (tape.length + FEED_BYTES > TAPE_MOST) {
            return NONE;
        }
        tape.put(a);
        tape.put(b);
        tape.put(c);
        tape.put(d);
        tape.put(e);
        return tape.length;
    }

    public boolean end(int n) {
        if (n < 0 || n > tape.length) {
            return false;
        }
        tape.length = n;
        return true;
    }

    public int village() throws IllegalArgumentException, UnsupportedOperationException {
        spare.become(now);
        boolean right = reader.readVillage();
        closeText(right);
        if (!right) {
            throw new IllegalArgumentException("the text of the village is wrong");
        }
        if (now.texts >= TEXTS_MOST) {
            throw new UnsupportedOperationException("there are twelve texts");
        }
        now.become(spare);
        now.texts++;
        past.forget();
        return now.texts;
    }

    public int law() throws IllegalArgumentException {
        boolean right = reader.readLaw();
        closeText(right);
        if (!right) {
            throw new IllegalArgumentException("the text of the law is wrong");
        }
        lawNow.become(draft);
        past.forget();
        return lawNow.lines;
    }

    public int fault() {
        return faultAt;
    }

    public int person(int person, int what) throws IndexOutOfBoundsException, NoSuchElementException {
        needPerson(person);
        switch (what) {
            case 0: return now.hunger[person];
            case 1: return now.party[person];
            case 2: return now.skin[person];
            case 3: return isIn(now.standing, person) ? 1 : 0;
            case 4: return isIn(now.benched, person) ? 1 : 0;
            case 5: return now.had[person];
            case 6: return now.run[person];
            case 7: return pollNow().rankAt(person, 0);
            case 8: return pollNow().votesOf(person);
            case 9: return pollNow().pointsOf(person);
            case 10: return pollNow().duelsOf(person);
            case 11: return needed(person);
            case 12: return shareOf(person);
            case 13: return now.wouldPass(person);
            default: throw new NoSuchElementException("nothing such is known of a person");
        }
    }

    public int likes(int person, int other) throws IndexOutOfBoundsException, IllegalArgumentException {
        needTwo(person, other);
        return now.likingOf(person, other);
    }

    public int favour(int person, int other) throws IndexOutOfBoundsException {
        needPerson(person);
        needPerson(other);
        return lawNow.favourOf(now, person, other);
    }

    public int grist(int season) throws IndexOutOfBoundsException {
        if (season < 0 || season >= SEASONS) {
            throw new IndexOutOfBoundsException("there is no such season");
        }
        return now.grist[season];
    }

    public int weeks(int n) throws IllegalArgumentException {
        needNumber(n, 1, AHEAD_MOST);
        past.remember(now);
        int benchedAhead = Integer.bitCount(now.benched);
        baker.bakeWeeks(now, n, true);
        return Integer.bitCount(now.benched) - benchedAhead;
    }

    public boolean stand(int person, boolean is) throws IndexOutOfBoundsException, IllegalStateException {
        needPerson(person);
        if (isIn(now.benched, person)) {
            throw new IllegalStateException("who is on the bench cannot stand");
        }
        past.remember(now);
        boolean was = isIn(now.standing, person);
        now.standing = is ? now.standing | 1 << person : without(now.standing, person);
        return was != is;
    }

    public int like(int person, int other, int n) throws IndexOutOfBoundsException, IllegalArgumentException {
        needTwo(person, other);
        needNumber(n, 0, LIKING_MOST);
        past.remember(now);
        int was = now.likingOf(person, other);
        now.likes[person * PEOPLE_MOST + other] = n;
        return was;
    }

    public int join(int person, int party) throws IndexOutOfBoundsException {
        needPerson(person);
        needParty(party);
        past.remember(now);
        int was = now.party[person];
        now.party[person] = party;
        return was;
    }

    public int bring(int n) throws IllegalArgumentException {
        needNumber(n, 1, FLOUR_TOLD_MOST);
        past.remember(now);
        now.flour = Math.min(FLOUR_MOST, now.flour + n);
        return now.flour;
    }

    public int way(int n) throws IllegalArgumentException {
        needNumber(n, 0, WAYS - 1);
        past.remember(now);
        int was = now.way;
        now.way = n;
        return was;
    }

    public int pass(int person, int other)
            throws IndexOutOfBoundsException, IllegalArgumentException, IllegalStateException {
        needTwo(person, other);
        if (now.hunger[person] != 0 || isIn(now.benched, person) || isIn(now.benched, other)) {
            throw new IllegalStateException("no loaf can be passed on");
        }
        past.remember(now);
        now.hunger[person] = 1;
        now.hunger[other] = 0;
        now.warm(other, person);
        return now.likingOf(other, person);
    }

    public int fetch(int person) throws IndexOutOfBoundsException, IllegalStateException {
        needPerson(person);
        if (!isIn(now.benched, person)) {
            throw new IllegalStateException("who is fetched must be on the bench");
        }
        past.remember(now);
        now.benched = without(now.benched, person);
        now.hunger[person] = HUNGER_FETCHED;
        return Integer.bitCount(now.benched);
    }

    public int winner(int way) throws IllegalArgumentException {
        needNumber(way, 0, WAYS - 1);
        return pollNow().winnerBy(way);
    }

    public int rank(int person, int k) throws IndexOutOfBoundsException {
        needPerson(person);
        return pollNow().rankAt(person, k);
    }

    public boolean beats(int person, int other) throws IndexOutOfBoundsException, IllegalArgumentException {
        needTwo(person, other);
        return pollNow().isAhead(person, other);
    }

    public int master() {
        return pollNow().beaterOfAll();
    }

    public int hungry(int way, int n) throws IllegalArgumentException {
        needNumber(way, 0, WAYS - 1);
        needNumber(n, 0, AHEAD_MOST);
        return leftHungry(way, n);
    }

    public int kindest(int n) throws IllegalArgumentException {
        needNumber(n, 0, AHEAD_MOST);
        int best = 0;
        int fewest = PEOPLE_MOST + 1;
        for (int way = 0; way < WAYS; way++) {
            int left = leftHungry(way, n);
            if (left < fewest) {
                fewest = left;
                best = way;
            }
        }
        return best;
    }

    public int next(int n) throws IllegalArgumentException {
        needNumber(n, 0, AHEAD_MOST);
        lookAhead(n);
        poll.hold(spare, lawNow);
        return poll.winnerBy(spare.way);
    }

    public int woo(int person) throws IndexOutOfBoundsException {
        needPerson(person);
        return pollNow().wonOver(person);
    }

    public int orders() {
        pollNow().meetInAllOrders();
        return poll.possibleLast();
    }

    public int order(int person, int k) throws IndexOutOfBoundsException {
        needPerson(person);
        pollNow().meetInAllOrders();
        return poll.placeInOrder(person, k);
    }

    public int rota(int n, int k) throws IllegalArgumentException {
        needNumber(n, 0, TURNS_MOST);
        turns.findBest(now, n);
        if (k == NONE) {
            return turns.fewest;
        }
        return k >= 0 && k < n ? turns.best[k] : NONE;
    }

    public int lasts() {
        spare.become(now);
        for (int n = 0; n <= AHEAD_MOST; n++) {
            if (spare.flour == 0) {
                return n;
            }
            baker.bakeWeeks(spare, 1, false);
        }
        return NONE;
    }

    public int mill(int n) throws IllegalArgumentException {
        needNumber(n, 1, AHEAD_MOST);
        // Nobody eats more than one loaf a week, so grist of one each is as good as any above it.
        for (int grist = 0; grist <= PEOPLE_MOST; grist++) {
            spare.become(now);
            Arrays.fill(spare.grist, grist);
            baker.bakeWeeks(spare, n, false);
            if (spare.benched == now.benched) {
                return grist;
            }
        }
        return NONE;
    }

    public int starves(boolean who) {
        spare.become(now);
        for (int n = 1; n <= AHEAD_MOST; n++) {
            baker.bakeWeeks(spare, 1, false);
            if (spare.benched != now.benched) {
                return who ? leastOf(spare.benched & ~now.benched) : n;
            }
        }
        return NONE;
    }

    public int ballots() throws IllegalArgumentException {
        needBallots(hearBallots());
        return Math.min(WAYS_TOLD_MOST, secrets.ways);
    }

    public int sure(int person) throws IndexOutOfBoundsException, IllegalArgumentException {
        boolean heard = hearBallots();
        needPerson(person);
        needBallots(heard);
        return secrets.sureOf(person);
    }

    public int ask() throws IllegalArgumentException {
        needBallots(hearBallots());
        return secrets.bestToAsk();
    }

    public boolean carries(int house) {
        return hasMost(house);
    }

    public int swings(int person) throws IndexOutOfBoundsException {
        needPerson(person);
        return swungBy(person);
    }

    public int smallest() {
        int best = NONE;
        for (int set = 0; set < SETS; set++) {
            boolean isFewer = best == NONE || Integer.bitCount(set) < Integer.bitCount(best);
            if (isFewer && isHouse(set) && hasMost(set)) {
                best = set;
            }
        }
        return best;
    }

    public int bloc(int party) throws IndexOutOfBoundsException {
        needParty(party);
        int sum = 0;
        for (int p = 0; p < now.people; p++) {
            if (now.party[p] == party && !isIn(now.benched, p)) {
                sum += weightOf(p);
            }
        }
        return sum;
    }

    public int kingmaker() {
        int best = NONE;
        int most = 0;
        for (int p = 0; p < now.people; p++) {
            int swung = swungBy(p);
            if (swung > most) {
                most = swung;
                best = p;
            }
        }
        return best;
    }

    public int couples(int person) throws IndexOutOfBoundsException {
        if (person != NONE) {
            needPerson(person);
        }
        friends.meet(now);
        friends.pairUp();
        return person == NONE ? friends.warmth() : friends.partnerOf(person);
    }

    public int camps() {
        friends.meet(now);
        return friends.secondCamp();
    }

    public int table(int k) {
        friends.meet(now);
        friends.sitDown();
        return k == NONE ? friends.tableWarmth() : friends.seatAt(k);
    }

    public int slices(int person, int n) throws IndexOutOfBoundsException, IllegalArgumentException {
        needPerson(person);
        needNumber(n, 0, SLICES_MOST);
        int all = now.hungerOfAll();
        if (all == 0) {
            return 0;
        }
        int left = n;
        for (int p = 0; p < now.people; p++) {
            left -= n * now.hunger[p] / all;
        }
        return n * now.hunger[person] / all + (person < left ? 1 : 0);
    }

    public boolean ring(int person) throws IndexOutOfBoundsException {
        needPerson(person);
        int at = person;
        for (int step = 0; step < PEOPLE_MOST && at != NONE; step++) {
            at = now.wouldPass(at);
            if (at == person) {
                return true;
            }
        }
        return false;
    }

    public int rests(int person, int other)
            throws IndexOutOfBoundsException, IllegalArgumentException, IllegalStateException {
        needTwo(person, other);
        if (!isIn(now.runners(), person)) {
            throw new IllegalStateException("who speaks must be a runner");
        }
        int bits = 0;
        for (int choice = 0; choice < 4; choice++) {
            boolean speakerRests = speakerHas(choice, person, other) >= speakerHas(choice ^ 2, person, other);
            boolean hecklerRests = hecklerHas(choice, other) >= hecklerHas(choice ^ 1, other);
            if (speakerRests && hecklerRests) {
                bits |= 1 << choice;
            }
        }
        return bits;
    }

    public int odds(int n, int k) throws IllegalArgumentException {
        needNumber(n, 0, ODDS_MOST);
        needNumber(k, 0, ODDS_MOST);
        long hits = 0;
        for (int j = k; j <= n; j++) {
            hits += choose(n, j) * power(now.speech, j) * power(SPEECH_MOST - now.speech, n - j);
        }
        long all = power(SPEECH_MOST, n);
        return all > 0 ? (int) (hits * 10000 / all) : 0;
    }

    public int hungriest() {
        int best = NONE;
        for (int p = 0; p < now.people; p++) {
            if (!isIn(now.benched, p) && (best == NONE || now.hunger[p] > now.hunger[best])) {
                best = p;
            }
        }
        return best;
    }

    public int loved() {
        int best = NONE;
        int most = -1;
        for (int p = 0; p < now.people; p++) {
            int love = now.loveFor(p);
            if (love > most) {
                most = love;
                best = p;
            }
        }
        return best;
    }

    public int thick() {
        int bits = 0;
        for (int p = 0; p < now.people; p++) {
            if (now.run[p] >= 2 && now.skin[p] == 0) {
                bits |= 1 << p;
            }
        }
        return bits;
    }

    public int bench() {
        return now.benched;
    }

    public int crowd() {
        return now.standing;
    }

    public int never() {
        int bits = 0;
        for (int p = 0; p < now.people; p++) {
            if (now.had[p] == 0) {
                bits |= 1 << p;
            }
        }
        return bits;
    }

    public int alike() {
        int pairs = 0;
        for (int p = 0; p < now.people; p++) {
            for (int q = p + 1; q < now.people; q++) {
                if (now.party[p] == now.party[q] && now.skin[p] == now.skin[q]) {
                    pairs++;
                }
            }
        }
        return pairs;
    }

    public int ahead(int person, int n, int what)
            throws IndexOutOfBoundsException, IllegalArgumentException, NoSuchElementException {
        needPerson(person);
        needNumber(n, 0, AHEAD_MOST);
        if (what < 0 || what > 2) {
            throw new NoSuchElementException("nothing such is told of weeks ahead");
        }
        lookAhead(n);
        switch (what) {
            case 0: return spare.hunger[person];
            case 1: return spare.had[person];
            default: return isIn(spare.benched, person) ? 1 : 0;
        }
    }

    public int trial(int n, boolean hunger) throws IllegalArgumentException {
        needNumber(n, 0, AHEAD_MOST);
        spare.become(now);
        baker.bakeWeeks(spare, n, true);
        return hunger ? spare.hungerOfAll() : spare.benched;
    }

    public int span(int n, boolean most) throws IllegalArgumentException {
        needNumber(n, 0, AHEAD_MOST);
        int least = PEOPLE_MOST;
        int greatest = 0;
        for (int seed = 1; seed <= SPAN_SEEDS; seed++) {
            spare.become(now);
            spare.seed = seed;
            baker.bakeWeeks(spare, n, true);
            int benched = Integer.bitCount(spare.benched);
            least = Math.min(least, benched);
            greatest = Math.max(greatest, benched);
        }
        return most ? greatest : least;
    }

    public int led(int person, boolean week) throws IndexOutOfBoundsException {
        needPerson(person);
        return week ? now.rows.latestWeekOf(person) : now.rows.rowsOf(person);
    }

    public int log(int ago, int what) throws NoSuchElementException {
        if (what < 0 || what >= LOG_COLUMNS) {
            throw new NoSuchElementException("the log has no such column");
        }
        return now.rows.read(ago, what);
    }

    public int seed(int n) {
        int was = now.seed;
        now.seed = n;
        return was;
    }

    public boolean undo() {
        return past.recall(now);
    }

    public void image() {
        imageVillage.become(now);
        imageLaw.become(lawNow);
        imageKept = true;
    }

    public boolean back() {
        if (!imageKept) {
            return false;
        }
        now.become(imageVillage);
        lawNow.become(imageLaw);
        past.forget();
        return true;
    }

    public int count(int what) {
        switch (what) {
            case 0: return now.people;
            case 1: return now.texts;
            case 2: return lawNow.lines;
            case 3: return now.week;
            case 4: return now.flour;
            case 5: return now.way;
            case 6: return now.speech;
            case 7: return pollNow().voters;
            case 8: return now.runners();
            case 9: return now.hungerOfAll();
            case 10: return now.hadOfAll();
            case 11: return now.rows.size;
            case 12: return past.size;
            default: return NONE;
        }
    }

    private static boolean isIn(int set, int person) {
        return (set >> person & 1) == 1;
    }

    private static int without(int set, int person) {
        return set & ~(1 << person);
    }

    private static int leastOf(int set) {
        for (int p = 0; p < PEOPLE_MOST; p++) {
            if (isIn(set, p)) {
                return p;
            }
        }
        return NONE;
    }

    private static long choose(int n, int k) {
        long ways = 1;
        for (int i = 1; i <= k; i++) {
            ways = ways * (n - k + i) / i;
        }
        return ways;
    }

    private static long power(long base, int exponent) {
        long product = 1;
        for (int i = 0; i < exponent; i++) {
            product *= base;
        }
        return product;
    }

    private static void needNumber(int n, int least, int most) {
        if (n < least || n > most) {
            throw new IllegalArgumentException("the number is none");
        }
    }

    private static void needParty(int party) {
        if (party < 0 || party >= PARTIES) {
            throw new IndexOutOfBoundsException("there is no such party");
        }
    }

    private static void needBallots(boolean heard) {
        if (!heard) {
            throw new IllegalArgumentException("the tape tells no ballots");
        }
    }

    private void needPerson(int person) {
        if (person < 0 || person >= now.people) {
            throw new IndexOutOfBoundsException("there is no such person");
        }
    }

    private void needTwo(int person, int other) {
        needPerson(person);
        needPerson(other);
        if (person == other) {
            throw new IllegalArgumentException("both are one");
        }
    }

    private void closeText(boolean right) {
        faultAt = right ? NONE : tape.begin;
        tape.length = 0;
    }

    private Poll pollNow() {
        poll.hold(now, lawNow);
        return poll;
    }

    private boolean hearBallots() {
        boolean heard = secrets.hear(tape, now, pollNow());
        tape.length = 0;
        return heard;
    }

    private void lookAhead(int n) {
        spare.become(now);
        baker.bakeWeeks(spare, n, false);
    }

    private int leftHungry(int way, int n) {
        spare.become(now);
        spare.way = way;
        baker.bakeWeeks(spare, n, false);
        return Integer.bitCount(spare.benched);
    }

    private int needed(int person) {
        int set = pollNow().wonOver(person);
        return set == NONE ? NONE : Integer.bitCount(set);
    }

    private int shareOf(int person) {
        int all = now.hadOfAll();
        return all == 0 ? 0 : now.had[person] * 100 / all;
    }

    private int weightOf(int person) {
        return now.had[person] > 0 ? 2 : 1;
    }

    private boolean isHouse(int set) {
        return (set & ~now.present()) == 0;
    }

    private boolean hasMost(int house) {
        int lead = 0;
        for (int p = 0; p < now.people; p++) {
            if (!isIn(now.benched, p)) {
                lead += isIn(house, p) ? weightOf(p) : -weightOf(p);
            }
        }
        return lead > 0;
    }

    private int swungBy(int person) {
        int swung = 0;
        for (int set = 0; set < SETS; set++) {
            boolean isWith = isIn(set, person) && isHouse(set);
            if (isWith && hasMost(set) && !hasMost(without(set, person))) {
                swung++;
            }
        }
        return swung;
    }

    private int speakerHas(int choice, int speaker, int heckler) {
        if (choice >= 2) {
            return 0;
        }
        return choice == 0 ? now.likingOf(heckler, speaker) - 5 : 3;
    }

    private int hecklerHas(int choice, int heckler) {
        switch (choice) {
            case 0: return 9 - now.skin[heckler];
            case 1: return 1;
            case 2: return -2;
            default: return 0;
        }
    }

    /** The bytes that were fed, and the thing among them that a text's reader looks at. */
    private static final class Tape {
        final int[] bytes = new int[TAPE_MOST];
        int length = 0;
        int begin = 0;
        int after = 0;
        int kind = KIND_END;

        void put(int number) {
            for (int shift = 24; shift >= 0 && length < TAPE_MOST; shift -= 8) {
                bytes[length] = number >>> shift & 255;
                length++;
            }
        }

        void open() {
            after = 0;
            advance();
        }

        void advance() {
            begin = after;
            while (begin < length && bytes[begin] == ' ') {
                begin++;
            }
            after = begin;
            kind = KIND_END;
            if (begin < length) {
                kind = kindOf(bytes[begin]);
                after++;
            }
            while (kind != KIND_SIGN && after < length && kindOf(bytes[after]) == kind) {
                after++;
            }
        }

        static int kindOf(int sign) {
            if (sign >= 'a' && sign <= 'z') {
                return KIND_WORD;
            }
            return sign >= '0' && sign <= '9' ? KIND_NUMBER : KIND_SIGN;
        }

        boolean isAtEnd() {
            return kind == KIND_END;
        }

        boolean isSign(char sign) {
            return kind == KIND_SIGN && bytes[begin] == sign;
        }

        boolean isWord(String word) {
            if (kind != KIND_WORD || after - begin != word.length()) {
                return false;
            }
            for (int i = 0; i < word.length(); i++) {
                if (bytes[begin + i] != word.charAt(i)) {
                    return false;
                }
            }
            return true;
        }

        /** The number here; NONE, if there is none, or one of too many digits, or above the most. */
        int numberUpTo(int most) {
            if (kind != KIND_NUMBER || after - begin > DIGITS_MOST) {
                return NONE;
            }
            int number = 0;
            for (int i = begin; i < after; i++) {
                number = number * 10 + bytes[i] - '0';
            }
            return number <= most ? number : NONE;
        }
    }

    /** Reads texts into drafts; of a wrong text the tape stays at the first thing that is wrong. */
    private static final class Reader {
        final Tape tape;
        final Village village;
        final Law law;
        final int[] waiting = new int[STACK_MOST];
        int waitingSize = 0;
        int depth = 0;

        Reader(Tape tape, Village village, Law law) {
            this.tape = tape;
            this.village = village;
            this.law = law;
        }

        boolean readVillage() {
            tape.open();
            if (tape.isAtEnd()) {
                return true;
            }
            for (int lines = 0; lines < VILLAGE_LINES_MOST; lines++) {
                if (!readVillageLine()) {
                    return false;
                }
                if (tape.isAtEnd()) {
                    return true;
                }
                if (!tape.isSign(';')) {
                    return false;
                }
                tape.advance();
            }
            return false;
        }

        boolean readVillageLine() {
            if (tape.isWord("person")) {
                return readPerson();
            }
            if (tape.isWord("likes")) {
                return readLikes();
            }
            if (tape.isWord("grist")) {
                return readGrist();
            }
            if (tape.isWord("flour")) {
                village.flour = numberFollows(FLOUR_TOLD_MOST);
                return village.flour != NONE;
            }
            if (tape.isWord("way")) {
                village.way = numberFollows(WAYS - 1);
                return village.way != NONE;
            }
            if (tape.isWord("speech")) {
                village.speech = numberFollows(SPEECH_MOST);
                return village.speech != NONE;
            }
            if (tape.isWord("week")) {
                village.week = numberFollows(WEEK_TOLD_MOST);
                return village.week != NONE;
            }
            return false;
        }

        int numberFollows(int most) {
            tape.advance();
            int number = tape.numberUpTo(most);
            if (number != NONE) {
                tape.advance();
            }
            return number;
        }

        boolean readPerson() {
            int person = village.people;
            if (person >= PEOPLE_MOST) {
                return false;
            }
            village.people++;
            village.party[person] = NEITHER;
            tape.advance();
            if (!tape.isWord("hunger")) {
                return false;
            }
            village.hunger[person] = numberFollows(HUNGER_MOST);
            if (village.hunger[person] == NONE) {
                return false;
            }
            if (tape.isWord("party") && !readParty(person)) {
                return false;
            }
            if (tape.isWord("skin")) {
                village.skin[person] = numberFollows(SKIN_MOST);
            }
            if (village.skin[person] != NONE && tape.isWord("stands")) {
                village.standing |= 1 << person;
                tape.advance();
            }
            return village.skin[person] != NONE;
        }

        boolean readParty(int person) {
            tape.advance();
            if (!tape.isWord("crust") && !tape.isWord("crumb")) {
                return false;
            }
            village.party[person] = tape.isWord("crust") ? 0 : 1;
            tape.advance();
            return true;
        }

        boolean readLikes() {
            int person = numberFollows(village.people - 1);
            int other = tape.numberUpTo(village.people - 1);
            if (person == NONE || other == NONE || person == other) {
                return false;
            }
            int liking = numberFollows(LIKING_MOST);
            village.likes[person * PEOPLE_MOST + other] = liking;
            return liking != NONE;
        }

        boolean readGrist() {
            tape.advance();
            int season = seasonHere();
            if (season == NONE) {
                return false;
            }
            village.grist[season] = numberFollows(GRIST_MOST);
            return village.grist[season] != NONE;
        }

        int seasonHere() {
            if (tape.isWord("spring")) {
                return 0;
            }
            if (tape.isWord("summer")) {
                return 1;
            }
            if (tape.isWord("autumn")) {
                return 2;
            }
            return tape.isWord("winter") ? 3 : NONE;
        }

        boolean readLaw() {
            law.length = 0;
            law.lines = 0;
            tape.open();
            if (tape.isAtEnd()) {
                return true;
            }
            for (int lines = 0; lines < LAW_LINES_MOST; lines++) {
                if (!readLawLine()) {
                    return false;
                }
                law.lines++;
                if (tape.isAtEnd()) {
                    return true;
                }
                if (!tape.isSign(';')) {
                    return false;
                }
                tape.advance();
            }
            return false;
        }

        boolean readLawLine() {
            int line = LINE_ABSTAIN;
            if (tape.isWord("sway") || tape.isWord("spite")) {
                line = tape.isWord("sway") ? LINE_SWAY : LINE_SPITE;
                int number = numberFollows(SWAY_MOST);
                if (number == NONE) {
                    return false;
                }
                line += number;
            } else if (tape.isWord("abstain")) {
                tape.advance();
            } else {
                return false;
            }
            if (!tape.isWord("if")) {
                law.emit(1);
            } else if (!readCondition()) {
                return false;
            }
            law.emit(line);
            return true;
        }

        /** Writes each sign behind what it takes; those that wait for more are kept on a stack. */
        boolean readCondition() {
            waitingSize = 0;
            depth = 0;
            tape.advance();
            for (int atoms = 0; atoms < TAPE_MOST; atoms++) {
                if (!openAtoms() || !readAtom()) {
                    return false;
                }
                closeAtoms();
                if (tape.isWord("and")) {
                    emitWaiting(SIGN_AND, SIGN_AND);
                    waitFor(SIGN_AND);
                } else if (tape.isWord("or")) {
                    emitWaiting(SIGN_AND, SIGN_OR);
                    waitFor(SIGN_OR);
                } else {
                    emitWaiting(SIGN_AND, SIGN_OR);
                    return waitingSize == 0;
                }
                tape.advance();
            }
            return false;
        }

        boolean openAtoms() {
            for (int opened = 0; opened <= DEPTH_MOST; opened++) {
                boolean isNot = tape.isWord("not");
                if (!isNot && !tape.isSign('(')) {
                    return true;
                }
                if (depth >= DEPTH_MOST) {
                    return false;
                }
                depth++;
                waitFor(isNot ? SIGN_NOT : SIGN_OPEN);
                tape.advance();
            }
            return false;
        }

        void closeAtoms() {
            closeNots();
            for (int closed = 0; closed < DEPTH_MOST && tape.isSign(')'); closed++) {
                emitWaiting(SIGN_AND, SIGN_OR);
                // A ) that nothing opened is left for the text's reader to find.
                if (waitingSize <= 0) {
                    return;
                }
                waitingSize--;
                depth--;
                tape.advance();
                closeNots();
            }
        }

        void closeNots() {
            int ahead = waitingSize;
            emitWaiting(SIGN_NOT, SIGN_NOT);
            depth -= ahead - waitingSize;
        }

        void emitWaiting(int least, int most) {
            for (int i = waitingSize - 1; i >= 0; i--) {
                if (waiting[i] < least || waiting[i] > most) {
                    return;
                }
                law.emit(waiting[i]);
                waitingSize = i;
            }
        }

        void waitFor(int sign) {
            if (waitingSize < STACK_MOST) {
                waiting[waitingSize] = sign;
                waitingSize++;
            }
        }

        boolean readAtom() {
            if (tape.isWord("same") || tape.isWord("standing")) {
                law.emit(tape.isWord("same") ? PART_SAME : PART_STANDING);
                tape.advance();
                return true;
            }
            int comparing = NONE;
            boolean adding = false;
            for (int parts = 0; parts < TAPE_MOST; parts++) {
                if (!readPart()) {
                    return false;
                }
                if (adding) {
                    law.emit(SIGN_ADD);
                }
                adding = tape.isSign('+');
                if (!adding && comparing != NONE) {
                    law.emit(comparing);
                    return true;
                }
                if (!adding) {
                    comparing = comparisonHere();
                    if (comparing == NONE) {
                        return false;
                    }
                }
                tape.advance();
            }
            return false;
        }

        boolean readPart() {
            int number = tape.numberUpTo(PART_FIRST - 1);
            int word = number == NONE ? partHere() : number;
            if (word == NONE) {
                return false;
            }
            law.emit(word);
            tape.advance();
            return true;
        }

        int comparisonHere() {
            if (tape.isSign('<')) {
                return SIGN_LESS;
            }
            return tape.isSign('>') ? SIGN_MORE : NONE;
        }

        int partHere() {
            if (tape.isWord("voter")) {
                return PART_VOTER;
            }
            if (tape.isWord("other")) {
                return PART_OTHER;
            }
            if (tape.isWord("likes")) {
                return PART_LIKES;
            }
            if (tape.isWord("hunger")) {
                return PART_HUNGER;
            }
            if (tape.isWord("had")) {
                return PART_HAD;
            }
            if (tape.isWord("run")) {
                return PART_RUN;
            }
            return tape.isWord("skin") ? PART_SKIN : NONE;
        }
    }

    /** What sways a voter, and who will not vote. */
    private static final class Law {
        final int[] code = new int[CODE_MOST];
        final int[] stack = new int[STACK_MOST];
        final int[] parts = new int[PARTS];
        int length = 0;
        int lines = NONE;
        int swayed = 0;
        boolean abstains = false;

        void become(Law other) {
            System.arraycopy(other.code, 0, code, 0, CODE_MOST);
            length = other.length;
            lines = other.lines;
        }

        void emit(int word) {
            if (length < CODE_MOST) {
                code[length] = word;
                length++;
            }
        }

        int favourOf(Village village, int voter, int other) {
            int liking = village.likingOf(voter, other);
            if (lines == NONE) {
                return village.areOfOneParty(voter, other) ? liking + 2 : liking;
            }
            weigh(village, voter, other);
            return liking + swayed;
        }

        boolean keepsFromVoting(Village village, int voter) {
            if (lines == NONE) {
                return false;
            }
            weigh(village, voter, voter);
            return abstains;
        }

        void weigh(Village village, int voter, int other) {
            parts[PART_VOTER - PART_FIRST] = voter;
            parts[PART_OTHER - PART_FIRST] = other;
            parts[PART_LIKES - PART_FIRST] = village.likingOf(voter, other);
            parts[PART_HUNGER - PART_FIRST] = village.hunger[other];
            parts[PART_HAD - PART_FIRST] = village.had[other];
            parts[PART_RUN - PART_FIRST] = village.run[other];
            parts[PART_SKIN - PART_FIRST] = village.skin[voter];
            parts[PART_SAME - PART_FIRST] = village.areOfOneParty(voter, other) ? 1 : 0;
            parts[PART_STANDING - PART_FIRST] = isIn(village.standing, voter) ? 1 : 0;
            swayed = 0;
            abstains = false;
            int top = 0;
            for (int i = 0; i < length && i < CODE_MOST; i++) {
                int word = code[i];
                if (word < PART_FIRST + PARTS && top < STACK_MOST) {
                    stack[top] = word < PART_FIRST ? word : parts[word - PART_FIRST];
                    top++;
                } else if (word >= LINE_SWAY) {
                    if (top > 0 && stack[top - 1] == 1) {
                        hold(word);
                    }
                    top = 0;
                } else if (word == SIGN_NOT && top > 0) {
                    stack[top - 1] = 1 - stack[top - 1];
                } else if (top > 1) {
                    top--;
                    stack[top - 1] = joined(word, stack[top - 1], stack[top]);
                }
            }
        }

        void hold(int line) {
            if (line >= LINE_ABSTAIN) {
                abstains = true;
            } else if (line >= LINE_SPITE) {
                swayed -= line - LINE_SPITE;
            } else {
                swayed += line - LINE_SWAY;
            }
        }

        static int joined(int sign, int first, int second) {
            switch (sign) {
                case SIGN_ADD: return first + second;
                case SIGN_LESS: return first < second ? 1 : 0;
                case SIGN_MORE: return first > second ? 1 : 0;
                case SIGN_AND: return first & second;
                default: return first | second;
            }
        }
    }

    /** The latest last loaves and comings to the bench. */
    private static final class Log {
        final int[] cells = new int[LOG_ROWS * LOG_COLUMNS];
        int size = 0;
        int following = 0;

        void become(Log other) {
            System.arraycopy(other.cells, 0, cells, 0, LOG_ROWS * LOG_COLUMNS);
            size = other.size;
            following = other.following;
        }

        void write(int week, int kind, int person, int votes) {
            int cell = following * LOG_COLUMNS;
            cells[cell] = week;
            cells[cell + 1] = kind;
            cells[cell + 2] = person;
            cells[cell + 3] = votes;
            following = (following + 1) % LOG_ROWS;
            size = Math.min(LOG_ROWS, size + 1);
        }

        int read(int ago, int column) {
            if (ago < 0 || ago >= size || column < 0 || column >= LOG_COLUMNS) {
                return NONE;
            }
            int row = Math.floorMod(following - 1 - ago, LOG_ROWS);
            return cells[row * LOG_COLUMNS + column];
        }

        int rowsOf(int person) {
            int rows = 0;
            for (int ago = 0; ago < size; ago++) {
                if (read(ago, 2) == person) {
                    rows++;
                }
            }
            return rows;
        }

        int latestWeekOf(int person) {
            for (int ago = 0; ago < size; ago++) {
                if (read(ago, 2) == person) {
                    return read(ago, 0);
                }
            }
            return NONE;
        }
    }

    /** All that an image keeps and an undone act brings back, but for the law. */
    private static final class Village {
        final int[] hunger = new int[PEOPLE_MOST];
        final int[] party = new int[PEOPLE_MOST];
        final int[] skin = new int[PEOPLE_MOST];
        final int[] had = new int[PEOPLE_MOST];
        final int[] run = new int[PEOPLE_MOST];
        final int[] likes = new int[PAIRS];
        final int[] grist = new int[SEASONS];
        final Log rows = new Log();
        int people = 0;
        int standing = 0;
        int benched = 0;
        int flour = 0;
        int week = 0;
        int way = 0;
        int speech = 0;
        int seed = 1;
        int texts = 0;

        Village() {
            Arrays.fill(likes, LIKING_FIRST);
            Arrays.fill(grist, GRIST_FIRST);
        }

        void become(Village other) {
            System.arraycopy(other.hunger, 0, hunger, 0, PEOPLE_MOST);
            System.arraycopy(other.party, 0, party, 0, PEOPLE_MOST);
            System.arraycopy(other.skin, 0, skin, 0, PEOPLE_MOST);
            System.arraycopy(other.had, 0, had, 0, PEOPLE_MOST);
            System.arraycopy(other.run, 0, run, 0, PEOPLE_MOST);
            System.arraycopy(other.likes, 0, likes, 0, PAIRS);
            System.arraycopy(other.grist, 0, grist, 0, SEASONS);
            rows.become(other.rows);
            people = other.people;
            standing = other.standing;
            benched = other.benched;
            flour = other.flour;
            week = other.week;
            way = other.way;
            speech = other.speech;
            seed = other.seed;
            texts = other.texts;
        }

        int everybody() {
            return (1 << people) - 1;
        }

        int present() {
            return everybody() & ~benched;
        }

        int runners() {
            return standing & ~benched;
        }

        int likingOf(int person, int other) {
            return person == other ? LIKING_MOST : likes[person * PEOPLE_MOST + other];
        }

        boolean areOfOneParty(int person, int other) {
            return party[person] == party[other] && party[person] != NEITHER;
        }

        void warm(int person, int other) {
            int at = person * PEOPLE_MOST + other;
            likes[at] = Math.min(LIKING_MOST, likes[at] + 1);
        }

        void hungerMore(int person) {
            hunger[person] = Math.min(HUNGER_MOST, hunger[person] + 1);
        }

        int draw() {
            seed = 1103515245 * seed + 12345;
            return seed >>> 16 & 32767;
        }

        int hungerOfAll() {
            int sum = 0;
            for (int p = 0; p < people; p++) {
                sum += hunger[p];
            }
            return sum;
        }

        int hadOfAll() {
            int sum = 0;
            for (int p = 0; p < people; p++) {
                sum += had[p];
            }
            return sum;
        }

        int loveFor(int person) {
            int sum = 0;
            for (int p = 0; p < people; p++) {
                sum += p == person ? 0 : likingOf(p, person);
            }
            return sum;
        }

        int wouldPass(int person) {
            int best = NONE;
            int most = -1;
            for (int p = 0; p < people; p++) {
                int pull = likingOf(person, p) + hunger[p];
                if (p != person && !isIn(benched, p) && pull > most) {
                    most = pull;
                    best = p;
                }
            }
            return best;
        }
    }

    /** The states ahead of the latest acts, as a ring that forgets the oldest. */
    private static final class Past {
        final Village[] kept = new Village[ACTS_MOST];
        int size = 0;
        int following = 0;

        Past() {
            for (int i = 0; i < ACTS_MOST; i++) {
                kept[i] = new Village();
            }
        }

        void remember(Village village) {
            kept[following].become(village);
            following = (following + 1) % ACTS_MOST;
            size = Math.min(ACTS_MOST, size + 1);
        }

        boolean recall(Village village) {
            if (size == 0) {
                return false;
            }
            following = Math.floorMod(following - 1, ACTS_MOST);
            size--;
            village.become(kept[following]);
            return true;
        }

        void forget() {
            size = 0;
        }
    }

    /** Who votes, how each voter ranks the runners, and who has it by each way of counting. */
    private static final class Poll {
        final int[] ranks = new int[PAIRS];
        final int[] places = new int[PAIRS];
        final int[] favours = new int[PEOPLE_MOST];
        final int[] tally = new int[PEOPLE_MOST];
        final int[] beaten = new int[PEOPLE_MOST];
        final int[] ends = new int[SETS * PEOPLE_MOST];
        int people = 0;
        int runners = 0;
        int running = 0;
        int voters = 0;

        void hold(Village village, Law law) {
            people = village.people;
            runners = village.runners();
            running = Integer.bitCount(runners);
            voters = 0;
            for (int v = 0; v < people; v++) {
                if (!isIn(village.benched, v) && !law.keepsFromVoting(village, v)) {
                    voters |= 1 << v;
                    for (int r = 0; r < people; r++) {
                        favours[r] = isIn(runners, r) ? law.favourOf(village, v, r) : 0;
                    }
                    sortRank(v);
                }
            }
        }

        void sortRank(int voter) {
            int row = voter * PEOPLE_MOST;
            int ranked = 0;
            for (int r = 0; r < people; r++) {
                if (isIn(runners, r)) {
                    int k = ranked;
                    while (k > 0 && favours[ranks[row + k - 1]] < favours[r]) {
                        ranks[row + k] = ranks[row + k - 1];
                        k--;
                    }
                    ranks[row + k] = r;
                    ranked++;
                }
            }
            for (int k = 0; k < ranked; k++) {
                places[row + ranks[row + k]] = k;
            }
        }

        int rankAt(int voter, int k) {
            if (!isIn(voters, voter) || k < 0 || k >= running) {
                return NONE;
            }
            return ranks[voter * PEOPLE_MOST + k];
        }

        int votesOf(int person) {
            int votes = 0;
            for (int v = 0; v < people; v++) {
                if (rankAt(v, 0) == person) {
                    votes++;
                }
            }
            return votes;
        }

        int pointsOf(int person) {
            if (!isIn(runners, person)) {
                return 0;
            }
            int points = 0;
            for (int v = 0; v < people; v++) {
                if (isIn(voters, v)) {
                    points += running - 1 - places[v * PEOPLE_MOST + person];
                }
            }
            return points;
        }

        boolean isAhead(int person, int other) {
            if (!isIn(runners, person) || !isIn(runners, other)) {
                return false;
            }
            int lead = 0;
            for (int v = 0; v < people; v++) {
                if (isIn(voters, v)) {
                    int row = v * PEOPLE_MOST;
                    lead += places[row + person] < places[row + other] ? 1 : -1;
                }
            }
            return lead > 0;
        }

        int duelsOf(int person) {
            int duels = 0;
            for (int r = 0; r < people; r++) {
                if (r != person && isAhead(person, r)) {
                    duels++;
                }
            }
            return duels;
        }

        int beaterOfAll() {
            for (int r = 0; r < people; r++) {
                if (isIn(runners, r) && duelsOf(r) == running - 1) {
                    return r;
                }
            }
            return NONE;
        }

        int winnerBy(int way) {
            if (way == 4) {
                return lastOfRounds();
            }
            if (way == 5) {
                return betterOfTwo();
            }
            switch (way) {
                case 0: countFirst(runners); break;
                case 1: countLast(); break;
                case 2: countPoints(); break;
                default: countDuels(); break;
            }
            return greatest(runners);
        }

        int greatest(int among) {
            int best = NONE;
            for (int r = 0; r < people; r++) {
                if (isIn(among, r) && (best == NONE || tally[r] > tally[best])) {
                    best = r;
                }
            }
            return best;
        }

        void countFirst(int among) {
            Arrays.fill(tally, 0);
            for (int v = 0; v < people; v++) {
                int row = v * PEOPLE_MOST;
                int k = isIn(voters, v) ? 0 : running;
                while (k < running && !isIn(among, ranks[row + k])) {
                    k++;
                }
                if (k < running) {
                    tally[ranks[row + k]]++;
                }
            }
        }

        /** Below zero, so that who is last in the fewest has the greatest tally. */
        void countLast() {
            Arrays.fill(tally, 0);
            for (int v = 0; v < people; v++) {
                int last = rankAt(v, running - 1);
                if (last != NONE) {
                    tally[last]--;
                }
            }
        }

        void countPoints() {
            for (int r = 0; r < people; r++) {
                tally[r] = pointsOf(r);
            }
        }

        void countDuels() {
            Arrays.fill(tally, 0);
            for (int a = 0; a < people; a++) {
                for (int b = 0; b < people; b++) {
                    if (a != b && isAhead(a, b)) {
                        tally[a]++;
                    }
                }
            }
        }

        int lastOfRounds() {
            int left = runners;
            for (int round = 1; round < running; round++) {
                countFirst(left);
                int goes = NONE;
                for (int r = 0; r < people; r++) {
                    if (isIn(left, r) && (goes == NONE || tally[r] <= tally[goes])) {
                        goes = r;
                    }
                }
                if (goes != NONE) {
                    left = without(left, goes);
                }
            }
            return leastOf(left);
        }

        int betterOfTwo() {
            if (running < 2) {
                return leastOf(runners);
            }
            countFirst(runners);
            int first = greatest(runners);
            int others = without(runners, first);
            countFirst(others);
            int second = greatest(others);
            int lesser = Math.min(first, second);
            int greater = Math.max(first, second);
            return isAhead(greater, lesser) ? greater : lesser;
        }

        /** For those who have met and the one who holds it, who can be the last one. */
        void meetInAllOrders() {
            for (int a = 0; a < people; a++) {
                beaten[a] = 0;
                for (int b = 0; b < people; b++) {
                    if (a != b && isAhead(a, b)) {
                        beaten[a] |= 1 << b;
                    }
                }
            }
            for (int met = runners; met > 0; met--) {
                for (int holder = 0; holder < people; holder++) {
                    ends[met * PEOPLE_MOST + holder] = endsOf(met, holder);
                }
            }
        }

        int endsOf(int met, int holder) {
            if ((met & ~runners) != 0 || !isIn(met, holder)) {
                return 0;
            }
            if (met == runners) {
                return 1 << holder;
            }
            int bits = 0;
            for (int r = 0; r < people; r++) {
                if (isIn(runners & ~met, r)) {
                    bits |= endsWith(met, holder, r);
                }
            }
            return bits;
        }

        int endsWith(int met, int holder, int coming) {
            return ends[(met | 1 << coming) * PEOPLE_MOST + holderAfter(holder, coming)];
        }

        int holderAfter(int holder, int coming) {
            return holder == NONE || isIn(beaten[coming], holder) ? coming : holder;
        }

        int possibleLast() {
            int bits = 0;
            for (int r = 0; r < people; r++) {
                if (isIn(runners, r)) {
                    bits |= endsWith(0, NONE, r);
                }
            }
            return bits;
        }

        int placeInOrder(int person, int k) {
            int met = 0;
            int holder = NONE;
            int coming = NONE;
            if (k < 0 || k >= running) {
                return NONE;
            }
            for (int i = 0; i <= k; i++) {
                coming = leastTowards(person, met, holder);
                if (coming == NONE) {
                    return NONE;
                }
                holder = holderAfter(holder, coming);
                met |= 1 << coming;
            }
            return coming;
        }

        int leastTowards(int person, int met, int holder) {
            for (int r = 0; r < people; r++) {
                if (isIn(runners & ~met, r) && isIn(endsWith(met, holder, r), person)) {
                    return r;
                }
            }
            return NONE;
        }

        int wonOver(int person) {
            int best = NONE;
            if (!isIn(runners, person)) {
                return best;
            }
            for (int set = 0; set < SETS; set++) {
                boolean isFewer = best == NONE || Integer.bitCount(set) < Integer.bitCount(best);
                if ((set & ~voters) == 0 && isFewer && hasItWith(person, set)) {
                    best = set;
                }
            }
            return best;
        }

        boolean hasItWith(int person, int turned) {
            Arrays.fill(tally, 0);
            for (int v = 0; v < people; v++) {
                int vote = isIn(turned, v) ? person : rankAt(v, 0);
                if (vote != NONE) {
                    tally[vote]++;
                }
            }
            return greatest(runners) == person;
        }
    }

    /** Bakes weeks, of the village itself or of one that is looked at ahead. */
    private static final class Baker {
        final Poll poll;
        final Law law;

        Baker(Poll poll, Law law) {
            this.poll = poll;
            this.law = law;
        }

        void bakeWeeks(Village village, int n, boolean speeches) {
            for (int i = 0; i < n; i++) {
                int season = Math.floorMod(village.week, SEASONS);
                village.flour = Math.min(FLOUR_MOST, village.flour + village.grist[season]);
                feedOthers(village);
                giveLastLoaf(village);
                seatStarved(village);
                if (speeches) {
                    holdSpeech(village);
                }
                village.week = Math.min(WEEK_MOST, village.week + 1);
            }
        }

        void feedOthers(Village village) {
            for (int p = 0; p < village.people; p++) {
                if (isIn(village.standing | village.benched, p)) {
                    continue;
                }
                if (village.flour > 0) {
                    village.flour--;
                    village.hunger[p] = 0;
                } else {
                    village.hungerMore(p);
                }
            }
        }

        void giveLastLoaf(Village village) {
            int eater = NONE;
            if (village.flour > 0) {
                poll.hold(village, law);
                eater = poll.winnerBy(village.way);
            }
            for (int p = 0; p < village.people; p++) {
                if (p != eater) {
                    village.run[p] = 0;
                    if (isIn(village.runners(), p)) {
                        village.hungerMore(p);
                    }
                }
            }
            if (eater != NONE) {
                village.flour--;
                village.hunger[eater] = 0;
                village.had[eater] = Math.min(HAD_MOST, village.had[eater] + 1);
                village.run[eater] = Math.min(RUN_MOST, village.run[eater] + 1);
                village.rows.write(village.week, LAST_LOAF, eater, poll.votesOf(eater));
            }
        }

        void seatStarved(Village village) {
            for (int p = 0; p < village.people; p++) {
                if (!isIn(village.benched, p) && village.hunger[p] == HUNGER_MOST) {
                    village.benched |= 1 << p;
                    village.rows.write(village.week, CAME_TO_BENCH, p, 0);
                }
            }
        }

        void holdSpeech(Village village) {
            int runners = village.runners();
            int running = Integer.bitCount(runners);
            if (village.draw() % 100 >= village.speech || running == 0) {
                return;
            }
            int place = village.draw() % running;
            for (int r = 0; r < village.people; r++) {
                if (isIn(runners, r)) {
                    if (place == 0) {
                        warmAll(village, r);
                    }
                    place--;
                }
            }
        }

        void warmAll(Village village, int speaker) {
            for (int p = 0; p < village.people; p++) {
                if (p != speaker) {
                    village.warm(p, speaker);
                }
            }
        }
    }

    /** Rows of last loaves given as one likes, so that the fewest come to the bench. */
    private static final class Turns {
        final int[] hungers = new int[(TURNS_MOST + 1) * PEOPLE_MOST];
        final int[] flours = new int[TURNS_MOST + 1];
        final int[] benches = new int[TURNS_MOST + 1];
        final int[] grists = new int[TURNS_MOST];
        final int[] row = new int[TURNS_MOST];
        final int[] best = new int[TURNS_MOST];
        int people = 0;
        int standing = 0;
        int runners = 0;
        int weeks = 0;
        int fewest = 0;

        void findBest(Village village, int n) {
            people = village.people;
            standing = village.standing;
            runners = village.runners();
            weeks = Math.min(n, TURNS_MOST);
            fewest = PEOPLE_MOST + 1;
            flours[0] = village.flour;
            benches[0] = village.benched;
            System.arraycopy(village.hunger, 0, hungers, 0, PEOPLE_MOST);
            for (int i = 0; i < weeks; i++) {
                grists[i] = village.grist[Math.min(WEEK_MOST, village.week + i) % SEASONS];
            }
            search(0);
        }

        private void search(int depth) {
            // Nobody leaves the bench, so a row that is no better yet cannot become better.
            if (Integer.bitCount(benches[depth]) >= fewest) {
                return;
            }
            if (depth >= weeks) {
                fewest = Integer.bitCount(benches[depth]);
                System.arraycopy(row, 0, best, 0, weeks);
                return;
            }
            for (int eater = NONE; eater < people; eater++) {
                boolean isFree = eater == NONE || isIn(runners & ~benches[depth], eater);
                if (isFree && bake(depth, eater)) {
                    row[depth] = eater;
                    search(depth + 1);
                }
            }
        }

        /** A week as the baker's, but for the vote; false if there is no loaf for the eater. */
        boolean bake(int depth, int eater) {
            int from = depth * PEOPLE_MOST;
            int to = from + PEOPLE_MOST;
            int flour = Math.min(FLOUR_MOST, flours[depth] + grists[depth]);
            for (int p = 0; p < people; p++) {
                int hungerMore = Math.min(HUNGER_MOST, hungers[from + p] + 1);
                if (isIn(benches[depth], p)) {
                    hungers[to + p] = hungers[from + p];
                } else if (isIn(standing, p)) {
                    hungers[to + p] = p == eater ? 0 : hungerMore;
                } else {
                    hungers[to + p] = flour > 0 ? 0 : hungerMore;
                    flour = Math.max(0, flour - 1);
                }
            }
            if (eater != NONE && flour == 0) {
                return false;
            }
            flours[depth + 1] = eater == NONE ? flour : flour - 1;
            benches[depth + 1] = benches[depth];
            for (int p = 0; p < people; p++) {
                if (hungers[to + p] == HUNGER_MOST) {
                    benches[depth + 1] |= 1 << p;
                }
            }
            return true;
        }
    }

    /** The ways in which votes may have been cast, counted by how far each told number is used up. */
    private static final class SecretBallots {
        final int[] told = new int[PEOPLE_MOST];
        final int[] steps = new int[PEOPLE_MOST];
        final int[] choices = new int[PEOPLE_MOST];
        // Told numbers are six together at most, so their states are two to the sixth at most.
        final int[] before = new int[(PEOPLE_MOST + 1) * SETS];
        final int[] after = new int[(PEOPLE_MOST + 1) * SETS];
        int people = 0;
        int voters = 0;
        int states = 1;
        int ways = 0;

        boolean hear(Tape tape, Village village, Poll poll) {
            people = village.people;
            voters = poll.voters;
            ways = 0;
            Arrays.fill(told, NONE);
            if (tape.length > BALLOT_BYTES_MOST || tape.length % 2 != 0) {
                return false;
            }
            boolean agree = true;
            for (int i = 0; i + 1 < tape.length; i += 2) {
                int runner = tape.bytes[i];
                int votes = tape.bytes[i + 1];
                if (runner >= people || !isIn(poll.runners, runner) || votes > BALLOT_VOTES_MOST) {
                    return false;
                }
                agree = agree && (told[runner] == NONE || told[runner] == votes);
                told[runner] = votes;
            }
            if (agree && votesTold() <= Integer.bitCount(voters)) {
                countWays(village, poll.runners);
            }
            return true;
        }

        int votesTold() {
            int sum = 0;
            for (int r = 0; r < people; r++) {
                sum += Math.max(0, told[r]);
            }
            return sum;
        }

        void countWays(Village village, int runners) {
            states = 1;
            for (int r = 0; r < people; r++) {
                steps[r] = states;
                states *= Math.max(0, told[r]) + 1;
            }
            for (int v = 0; v < people; v++) {
                choices[v] = choicesOf(village, runners, v);
            }
            countBefore();
            countAfter();
            ways = after[0];
        }

        int choicesOf(Village village, int runners, int voter) {
            int bits = 0;
            for (int r = 0; r < people; r++) {
                if (isIn(runners, r) && village.likingOf(voter, r) >= BALLOT_LIKING_LEAST) {
                    bits |= 1 << r;
                }
            }
            return bits;
        }

        /** The state behind one more vote for a runner; NONE, if it has all that were told. */
        int stateWith(int state, int runner) {
            if (told[runner] == NONE) {
                return state;
            }
            int had = state / Math.max(1, steps[runner]) % Math.max(1, told[runner] + 1);
            return had < told[runner] && state + steps[runner] < SETS ? state + steps[runner] : NONE;
        }

        void countBefore() {
            Arrays.fill(before, 0);
            before[0] = 1;
            for (int v = 0; v < people; v++) {
                for (int s = 0; s < states && s < SETS; s++) {
                    spread(v, s);
                }
            }
        }

        void spread(int voter, int state) {
            int from = before[voter * SETS + state];
            int to = (voter + 1) * SETS;
            if (!isIn(voters, voter)) {
                before[to + state] += from;
                return;
            }
            for (int r = 0; r < people; r++) {
                int then = isIn(choices[voter], r) ? stateWith(state, r) : NONE;
                if (then != NONE) {
                    before[to + then] += from;
                }
            }
        }

        void countAfter() {
            Arrays.fill(after, 0);
            if (states < 1 || states > SETS) {
                return;
            }
            after[people * SETS + states - 1] = 1;
            for (int v = people - 1; v >= 0; v--) {
                for (int s = 0; s < states; s++) {
                    after[v * SETS + s] = gather(v, s);
                }
            }
        }

        int gather(int voter, int state) {
            if (!isIn(voters, voter)) {
                return after[(voter + 1) * SETS + state];
            }
            int sum = 0;
            for (int r = 0; r < people; r++) {
                sum += waysWith(voter, r, state);
            }
            return sum;
        }

        int waysWith(int voter, int runner, int state) {
            int then = isIn(choices[voter], runner) ? stateWith(state, runner) : NONE;
            return then == NONE ? 0 : after[(voter + 1) * SETS + then];
        }

        /** In how many of the ways a voter voted for a runner. */
        int partOf(int voter, int runner) {
            int sum = 0;
            for (int s = 0; s < states && s < SETS; s++) {
                sum += before[voter * SETS + s] * waysWith(voter, runner, s);
            }
            return sum;
        }

        int sureOf(int person) {
            if (ways == 0 || !isIn(voters, person)) {
                return NONE;
            }
            for (int r = 0; r < people; r++) {
                if (partOf(person, r) == ways) {
                    return r;
                }
            }
            return NONE;
        }

        int bestToAsk() {
            int best = NONE;
            int least = 0;
            if (ways < 2) {
                return best;
            }
            for (int v = 0; v < people; v++) {
                int greatest = isIn(voters, v) ? greatestPart(v) : ways + 1;
                if (isIn(voters, v) && (best == NONE || greatest < least)) {
                    best = v;
                    least = greatest;
                }
            }
            return best;
        }

        int greatestPart(int voter) {
            int greatest = 0;
            for (int r = 0; r < people; r++) {
                greatest = Math.max(greatest, partOf(voter, r));
            }
            return greatest;
        }
    }

    /** People put together by how much they like one another. */
    private static final class Friends {
        final int[] warmths = new int[PAIRS];
        final int[] pairings = new int[SETS];
        final int[] tours = new int[SETS * PEOPLE_MOST];
        int people = 0;
        int everybody = 0;

        void meet(Village village) {
            people = village.people;
            everybody = village.everybody();
            for (int p = 0; p < people; p++) {
                for (int q = 0; q < people; q++) {
                    warmths[p * PEOPLE_MOST + q] = village.likingOf(p, q) + village.likingOf(q, p);
                }
            }
        }

        /** For each set the most that pairs of its people can have. */
        void pairUp() {
            pairings[0] = 0;
            for (int set = 1; set <= everybody; set++) {
                int one = leastOf(set);
                int rest = without(set, one);
                pairings[set] = pairings[rest];
                for (int q = one + 1; q < people; q++) {
                    if (isIn(rest, q)) {
                        pairings[set] = Math.max(pairings[set], pairedWith(rest, one, q));
                    }
                }
            }
        }

        int pairedWith(int rest, int one, int other) {
            return warmths[one * PEOPLE_MOST + other] + pairings[without(rest, other)];
        }

        int warmth() {
            return pairings[everybody];
        }

        int partnerOf(int person) {
            int set = everybody;
            for (int i = 0; i < PEOPLE_MOST && set != 0; i++) {
                int one = leastOf(set);
                int rest = without(set, one);
                int other = firstPartner(set, rest, one);
                if (one == person) {
                    return other;
                }
                if (other == person) {
                    return one;
                }
                set = other == NONE ? rest : without(rest, other);
            }
            return NONE;
        }

        int firstPartner(int set, int rest, int one) {
            if (pairings[rest] == pairings[set]) {
                return NONE;
            }
            for (int q = one + 1; q < people; q++) {
                if (isIn(rest, q) && pairedWith(rest, one, q) == pairings[set]) {
                    return q;
                }
            }
            return NONE;
        }

        int secondCamp() {
            int best = NONE;
            int least = 0;
            for (int set = 2; set <= everybody; set += 2) {
                int sum = acrossTo(set);
                if (best == NONE || sum < least) {
                    best = set;
                    least = sum;
                }
            }
            return best;
        }

        int acrossTo(int camp) {
            int sum = 0;
            for (int p = 0; p < people; p++) {
                for (int q = 0; q < people; q++) {
                    if (isIn(camp, p) && !isIn(camp, q)) {
                        sum += warmths[p * PEOPLE_MOST + q];
                    }
                }
            }
            return sum;
        }

        /** For those who sit and the last of them, the most that all yet to come can add. */
        void sitDown() {
            for (int sitting = everybody; sitting > 0; sitting--) {
                for (int last = 0; last < people; last++) {
                    tours[sitting * PEOPLE_MOST + last] = tourFrom(sitting, last);
                }
            }
        }

        int tourFrom(int sitting, int last) {
            if (sitting == everybody) {
                // Of two people the pair is counted already, and one has nobody beside it.
                return people > 2 ? warmths[last * PEOPLE_MOST] : 0;
            }
            int most = 0;
            for (int p = 0; p < people; p++) {
                if (!isIn(sitting, p)) {
                    most = Math.max(most, tourWith(sitting, last, p));
                }
            }
            return most;
        }

        int tourWith(int sitting, int last, int coming) {
            int then = sitting | 1 << coming;
            return warmths[last * PEOPLE_MOST + coming] + tours[then * PEOPLE_MOST + coming];
        }

        int tableWarmth() {
            return people == 0 ? 0 : tours[PEOPLE_MOST];
        }

        int seatAt(int k) {
            if (k < 0 || k >= people) {
                return NONE;
            }
            int sitting = 1;
            int last = 0;
            for (int i = 0; i < k; i++) {
                last = firstBeside(sitting, last);
                if (last == NONE) {
                    return NONE;
                }
                sitting |= 1 << last;
            }
            return last;
        }

        int firstBeside(int sitting, int last) {
            int most = tours[sitting * PEOPLE_MOST + last];
            for (int p = 0; p < people; p++) {
                if (!isIn(sitting, p) && tourWith(sitting, last, p) == most) {
                    return p;
                }
            }
            return NONE;
        }
    }
}
