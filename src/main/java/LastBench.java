/** The last bench of an upland chapel: who sits there, what is forgiven, and what would be. */
public final class LastBench {
    public static final int NONE = -1, UNKNOWN = -101, OUTSIDE = -102, STATE = -103, FULL = -104;

    private static final int MOST_LETTERS = 54;
    private static final int LAST_CODE = 126;
    private static final int MOST_ROOM = 6;
    private static final int LEAST_PEOPLE = 2;
    private static final int MOST_PEOPLE = 6;
    private static final int MOST_WRONGS = 8;
    private static final int MOST_GRAVE = 9;
    private static final int WARMEST = 20;
    private static final int MOST_SUNDAYS = 999;
    private static final int MOST_SEEN = 6;
    private static final int MOST_LEAVES = 20;
    private static final int MOST_LEAVE_SUNDAYS = 6;
    private static final int MOST_WINTER_SUNDAYS = 60;
    private static final int TENTHS = 10;

    private static final String KIND_LETTERS = "pghbs";
    private static final int PERSON = 0;
    private static final int GOOD = 1;
    private static final int HOLDER = 2;
    private static final int BABY = 3;
    private static final int SAINT = 4;

    private final Page page;
    private final Reader reader;
    private final Chapel now;
    private final Chapel kept;
    private final Chapel trial;
    private final Bench bench;
    private final Grudges grudges;
    private final Leaving leaving;
    private final Chances chances;
    private final Graves graves;
    private final Weather weather;
    private boolean hasImage;
    private int chapelsRead;
    private int leavesDone;

    public LastBench() {
        page = new Page();
        reader = new Reader();
        now = new Chapel();
        kept = new Chapel();
        trial = new Chapel();
        bench = new Bench();
        grudges = new Grudges();
        leaving = new Leaving();
        chances = new Chances();
        graves = new Graves();
        weather = new Weather();
        hasImage = false;
        chapelsRead = 0;
        leavesDone = 0;
    }

    // ---- the chapel

    public int letter(int code) {
        if (code < 1 || code > LAST_CODE) {
            return OUTSIDE;
        }
        if (page.length >= MOST_LETTERS) {
            return FULL;
        }
        page.add(code);
        return page.length;
    }

    public int blank() {
        int had = page.length;
        page.length = 0;
        return had;
    }

    public int fault() {
        return reader.firstFault(page);
    }

    public int chapel() {
        if (reader.firstFault(page) < page.length || !reader.isWhole()) {
            return STATE;
        }
        now.copyFrom(reader.draft);
        page.length = 0;
        hasImage = false;
        chapelsRead++;
        return now.people;
    }

    public int person(int person, int what) {
        if (!now.hasPerson(person)) {
            return UNKNOWN;
        }
        switch (what) {
            case 0:
                return now.kind[person];
            case 1:
                return now.warm[person];
            case 2:
                return guiltOf(person);
            case 3:
                return hasBit(sittersNow(), person) ? 1 : 0;
            case 4:
                return now.froze[person];
            case 5:
                grudges.fill(now, now.forgiven);
                return grudges.leads[person];
            default:
                return OUTSIDE;
        }
    }

    public int as(int person, int kind) {
        if (!now.hasPerson(person)) {
            return UNKNOWN;
        }
        if (!isKind(kind)) {
            return OUTSIDE;
        }
        return isA(now.kind[person], kind) ? person : NONE;
    }

    public int wrong(int wrong, int what) {
        if (!now.hasWrong(wrong)) {
            return UNKNOWN;
        }
        switch (what) {
            case 0:
                return now.did[wrong];
            case 1:
                return now.whom[wrong];
            case 2:
                return now.grave[wrong];
            case 3:
                return now.isForgiven(wrong) ? 1 : 0;
            case 4:
                graves.fill(now, wrong, trial, bench);
                return graves.possible;
            case 5:
                graves.fill(now, wrong, trial, bench);
                return graves.bestRoom();
            default:
                return OUTSIDE;
        }
    }

    public int to(int from, int to) {
        if (!now.hasPerson(from) || !now.hasPerson(to) || from == to) {
            return UNKNOWN;
        }
        grudges.fill(now, now.forgiven);
        return grudges.fewest(from, to);
    }

    // ---- what is done

    public int sunday() {
        if (!now.isThere()) {
            return STATE;
        }
        if (now.sundays >= MOST_SUNDAYS) {
            return FULL;
        }
        return now.passSunday(sittersNow());
    }

    public int forgive(int wrong) {
        if (!now.hasWrong(wrong)) {
            return UNKNOWN;
        }
        if (now.isForgiven(wrong)) {
            return STATE;
        }
        now.forgiven |= 1 << wrong;
        return guiltOf(now.did[wrong]);
    }

    public int again(int wrong, int grave) {
        if (!now.hasWrong(wrong)) {
            return UNKNOWN;
        }
        if (grave < 1 || grave > MOST_GRAVE) {
            return OUTSIDE;
        }
        now.grave[wrong] = grave;
        now.forgiven &= ~(1 << wrong);
        return guiltOf(now.did[wrong]);
    }

    public int room(int room) {
        if (!isRoom(room)) {
            return OUTSIDE;
        }
        if (!now.isThere()) {
            return STATE;
        }
        int held = now.room;
        now.room = room;
        return held;
    }

    public int change(int person, int kind, int warm) {
        if (!now.hasPerson(person)) {
            return UNKNOWN;
        }
        if (!isKind(kind) || warm < 0 || warm > WARMEST) {
            return OUTSIDE;
        }
        int was = now.kind[person];
        now.kind[person] = kind;
        now.warm[person] = warm;
        return was;
    }

    // ---- what would be

    public int leave(int sundays, int what) {
        if (sundays < 1 || sundays > MOST_LEAVE_SUNDAYS || what < 0 || what > 2) {
            return OUTSIDE;
        }
        if (!now.isThere() || leavesDone >= MOST_LEAVES) {
            return STATE;
        }
        leavesDone++;
        leaving.choose(now, sundays, bench);
        if (what == 0) {
            return leaving.freezing;
        }
        return what == 1 ? leaving.leastWarm : leaving.left;
    }

    public int ring() {
        if (!now.isThere()) {
            return STATE;
        }
        grudges.fill(now, now.forgiven);
        return grudges.shortestRing();
    }

    public int peace(int what) {
        if (what < 0 || what > 1) {
            return OUTSIDE;
        }
        if (!now.isThere()) {
            return STATE;
        }
        int which = grudges.fewestToForgive(now);
        return what == 0 ? Integer.bitCount(which) : which;
    }

    public int odds(int person, int tenths, int what) {
        if (!now.hasPerson(person)) {
            return UNKNOWN;
        }
        if (tenths < 0 || tenths > TENTHS || what < 0 || what > 1) {
            return OUTSIDE;
        }
        chances.fill(now, tenths, bench);
        return what == 0 ? chances.above(person) : chances.below(person);
    }

    // ---- what is seen

    public int see(int wrong, int room, boolean sits) {
        if (!now.hasWrong(wrong)) {
            return UNKNOWN;
        }
        if (!isRoom(room)) {
            return OUTSIDE;
        }
        if (now.seen >= MOST_SEEN) {
            return FULL;
        }
        now.addSeen(wrong, room, sits);
        return now.seen;
    }

    public int forget() {
        int was = now.seen;
        now.seen = 0;
        return was;
    }

    public int winters(int sundays, int seed, int what) {
        if (sundays < 1 || sundays > MOST_WINTER_SUNDAYS || seed < 0 || what < 0 || what > 2) {
            return OUTSIDE;
        }
        if (!now.isThere()) {
            return STATE;
        }
        trial.copyFrom(now);
        weather.pass(trial, sundays, seed, bench);
        if (what == 0) {
            return weather.freezing;
        }
        return what == 1 ? trial.allWarm() : weather.seed;
    }

    // ---- what is told of all

    public int image() {
        if (!now.isThere()) {
            return STATE;
        }
        kept.copyFrom(now);
        hasImage = true;
        return now.sundays;
    }

    public int restore() {
        if (!hasImage) {
            return STATE;
        }
        now.copyFrom(kept);
        return now.sundays;
    }

    public int count(int what) {
        switch (what) {
            case 0:
                return now.people;
            case 1:
                return now.wrongs;
            case 2:
                return now.room;
            case 3:
                return Integer.bitCount(sittersNow());
            case 4:
                return now.allWarm();
            case 5:
                bench.fill(now, now.forgiven);
                return bench.allGuilt();
            case 6:
                return Integer.bitCount(now.forgiven);
            case 7:
                return now.sundays;
            case 8:
                return now.allFroze();
            case 9:
                return now.seen;
            case 10:
                return page.length;
            case 11:
                return chapelsRead;
            case 12:
                return leavesDone;
            default:
                return OUTSIDE;
        }
    }

    public long digest() {
        long h = digestWrongs(digestPeople(1289L));
        if (now.isThere()) {
            h = digestGrudges(h);
        }
        for (int place = 0; place < page.length; place++) {
            h = 31L * h + page.codes[place];
        }
        for (int what = 0; what <= 12; what++) {
            h = 31L * h + count(what);
        }
        return h;
    }

    private long digestPeople(long start) {
        long h = start;
        // The chances of all are reckoned in one go: one by one they are the dearest part of a digest.
        chances.fill(now, 4, bench);
        for (int person = 0; person < now.people; person++) {
            for (int what = 0; what <= 5; what++) {
                h = 31L * h + person(person, what);
            }
            h = 31L * h + chances.above(person);
            h = 31L * h + chances.below(person);
        }
        return h;
    }

    private long digestWrongs(long start) {
        long h = start;
        for (int wrong = 0; wrong < now.wrongs; wrong++) {
            for (int what = 0; what <= 5; what++) {
                h = 31L * h + wrong(wrong, what);
            }
        }
        return h;
    }

    private long digestGrudges(long start) {
        long h = start;
        h = 31L * h + to(0, 1);
        h = 31L * h + to(1, 0);
        h = 31L * h + ring();
        int which = grudges.fewestToForgive(now);
        h = 31L * h + Integer.bitCount(which);
        return 31L * h + which;
    }

    private int guiltOf(int person) {
        bench.fill(now, now.forgiven);
        return bench.guilt[person];
    }

    private int sittersNow() {
        bench.fill(now, now.forgiven);
        return bench.sitters(now.room);
    }

    private static boolean isRoom(int room) {
        return room >= 1 && room <= MOST_ROOM;
    }

    private static boolean isKind(int kind) {
        return kind >= PERSON && kind <= SAINT;
    }

    private static boolean isA(int own, int kind) {
        return kind == PERSON || kind == own || (kind == GOOD && own == SAINT);
    }

    private static boolean hasBit(int bits, int number) {
        return (bits >> number & 1) != 0;
    }

    private static int nextWarm(int warm, boolean sits) {
        return sits ? Math.min(WARMEST, warm + 2) : Math.max(0, warm - 1);
    }

    private static int digitOf(int code) {
        return code >= '0' && code <= '9' ? code - '0' : NONE;
    }

    /** THE PAGE, on which a chapel is spelt. */
    private static final class Page {
        final int[] codes = new int[MOST_LETTERS];
        int length = 0;

        void add(int code) {
            if (length < codes.length) {
                codes[length] = code;
                length++;
            }
        }
    }

    /** Reads a page letter by letter into a draft, as far as a chapel can go on. */
    private static final class Reader {
        private static final int ROOM_DIGIT = 0;
        private static final int BEHIND_ROOM = 1;
        private static final int KIND_LETTER = 2;
        private static final int WARM_DIGIT = 3;
        private static final int BEHIND_PERSON = 4;
        private static final int DID_DIGIT = 5;
        private static final int WHOM_DIGIT = 6;
        private static final int GRAVE_DIGIT = 7;
        private static final int BEHIND_WRONG = 8;

        final Chapel draft = new Chapel();
        int next = ROOM_DIGIT;

        int firstFault(Page page) {
            draft.clear();
            next = ROOM_DIGIT;
            for (int place = 0; place < page.length; place++) {
                if (!takes(page.codes[place])) {
                    return place;
                }
            }
            return page.length;
        }

        boolean isWhole() {
            return next == BEHIND_WRONG;
        }

        private boolean takes(int code) {
            switch (next) {
                case ROOM_DIGIT:
                    return takesRoom(digitOf(code));
                case BEHIND_ROOM:
                    return goesOn(code == ';', KIND_LETTER);
                case KIND_LETTER:
                    return takesKind(KIND_LETTERS.indexOf((char) code));
                case WARM_DIGIT:
                    return takesWarm(digitOf(code));
                case BEHIND_PERSON:
                    return takesMark(code);
                case DID_DIGIT:
                    return takesDid(digitOf(code));
                case WHOM_DIGIT:
                    return takesWhom(digitOf(code));
                case GRAVE_DIGIT:
                    return takesGrave(digitOf(code));
                default:
                    return goesOn(code == ',' && draft.wrongs < MOST_WRONGS, DID_DIGIT);
            }
        }

        private boolean goesOn(boolean may, int then) {
            if (may) {
                next = then;
            }
            return may;
        }

        private boolean takesRoom(int digit) {
            draft.room = digit;
            return goesOn(isRoom(digit), BEHIND_ROOM);
        }

        private boolean takesKind(int kind) {
            if (kind < 0 || draft.people >= MOST_PEOPLE) {
                return false;
            }
            draft.kind[draft.people] = kind;
            next = WARM_DIGIT;
            return true;
        }

        private boolean takesWarm(int digit) {
            if (digit < 0 || draft.people >= MOST_PEOPLE) {
                return false;
            }
            draft.warm[draft.people] = digit;
            draft.froze[draft.people] = 0;
            draft.people++;
            next = BEHIND_PERSON;
            return true;
        }

        private boolean takesMark(int code) {
            if (code == ',') {
                return goesOn(draft.people < MOST_PEOPLE, KIND_LETTER);
            }
            return goesOn(code == ';' && draft.people >= LEAST_PEOPLE, DID_DIGIT);
        }

        private boolean takesDid(int digit) {
            if (!draft.hasPerson(digit) || draft.wrongs >= MOST_WRONGS) {
                return false;
            }
            draft.did[draft.wrongs] = digit;
            next = WHOM_DIGIT;
            return true;
        }

        private boolean takesWhom(int digit) {
            if (!draft.hasPerson(digit) || draft.wrongs >= MOST_WRONGS || digit == draft.did[draft.wrongs]) {
                return false;
            }
            draft.whom[draft.wrongs] = digit;
            next = GRAVE_DIGIT;
            return true;
        }

        private boolean takesGrave(int digit) {
            if (digit < 1 || draft.wrongs >= MOST_WRONGS) {
                return false;
            }
            draft.grave[draft.wrongs] = digit;
            draft.wrongs++;
            next = BEHIND_WRONG;
            return true;
        }
    }

    /** A chapel as it is at one time; with no people it is none. */
    private static final class Chapel {
        int room = 0;
        int people = 0;
        int wrongs = 0;
        int forgiven = 0;
        int sundays = 0;
        int seen = 0;
        final int[] kind = new int[MOST_PEOPLE];
        final int[] warm = new int[MOST_PEOPLE];
        final int[] froze = new int[MOST_PEOPLE];
        final int[] did = new int[MOST_WRONGS];
        final int[] whom = new int[MOST_WRONGS];
        final int[] grave = new int[MOST_WRONGS];
        final int[] seenWrong = new int[MOST_SEEN];
        final int[] seenRoom = new int[MOST_SEEN];
        final boolean[] seenSits = new boolean[MOST_SEEN];

        void clear() {
            room = 0;
            people = 0;
            wrongs = 0;
            forgiven = 0;
            sundays = 0;
            seen = 0;
        }

        void copyFrom(Chapel other) {
            room = other.room;
            people = other.people;
            wrongs = other.wrongs;
            forgiven = other.forgiven;
            sundays = other.sundays;
            seen = other.seen;
            for (int p = 0; p < people; p++) {
                kind[p] = other.kind[p];
                warm[p] = other.warm[p];
                froze[p] = other.froze[p];
            }
            for (int w = 0; w < wrongs; w++) {
                did[w] = other.did[w];
                whom[w] = other.whom[w];
                grave[w] = other.grave[w];
            }
            for (int s = 0; s < seen; s++) {
                seenWrong[s] = other.seenWrong[s];
                seenRoom[s] = other.seenRoom[s];
                seenSits[s] = other.seenSits[s];
            }
        }

        boolean isThere() {
            return people > 0;
        }

        boolean hasPerson(int number) {
            return number >= 0 && number < people;
        }

        boolean hasWrong(int number) {
            return number >= 0 && number < wrongs;
        }

        boolean isForgiven(int wrong) {
            return hasBit(forgiven, wrong);
        }

        int allWarm() {
            int sum = 0;
            for (int p = 0; p < people; p++) {
                sum += warm[p];
            }
            return sum;
        }

        int allFroze() {
            int sum = 0;
            for (int p = 0; p < people; p++) {
                sum += froze[p];
            }
            return sum;
        }

        int passSunday(int sitters) {
            int freezing = 0;
            sundays++;
            for (int p = 0; p < people; p++) {
                warm[p] = nextWarm(warm[p], hasBit(sitters, p));
                if (warm[p] == 0) {
                    froze[p]++;
                    freezing++;
                }
            }
            return freezing;
        }

        void addSeen(int wrong, int withRoom, boolean sits) {
            if (seen < MOST_SEEN) {
                seenWrong[seen] = wrong;
                seenRoom[seen] = withRoom;
                seenSits[seen] = sits;
                seen++;
            }
        }
    }

    /** The last bench: how guilty each one is, and who is ahead of whom for a seat. */
    private static final class Bench {
        private static final int NO_PLACE = MOST_ROOM;

        final int[] guilt = new int[MOST_PEOPLE];
        final int[] letOff = new int[MOST_PEOPLE];
        int people = 0;

        void fill(Chapel chapel, int forgiven) {
            people = chapel.people;
            for (int p = 0; p < people; p++) {
                guilt[p] = 0;
                letOff[p] = 0;
            }
            for (int w = 0; w < chapel.wrongs; w++) {
                int doer = chapel.did[w];
                if (hasBit(forgiven, w)) {
                    letOff[doer]++;
                } else {
                    guilt[doer] += chapel.grave[w];
                }
            }
            for (int p = 0; p < people; p++) {
                guilt[p] = guiltAs(chapel.kind[p], guilt[p], letOff[p]);
            }
        }

        private static int guiltAs(int kind, int owed, int forgivenOnes) {
            switch (kind) {
                case GOOD:
                    return owed / 2;
                case HOLDER:
                    return owed + forgivenOnes;
                case BABY:
                    return Math.max(1, owed);
                case SAINT:
                    return 0;
                default:
                    return owed;
            }
        }

        /** How many are ahead of him for a seat; so many that no bench is long enough, if he has no guilt. */
        int placeOf(int person) {
            int own = guilt[person];
            if (own < 1) {
                return NO_PLACE;
            }
            int ahead = 0;
            for (int p = 0; p < people; p++) {
                if (guilt[p] > own || (guilt[p] == own && p < person)) {
                    ahead++;
                }
            }
            return ahead;
        }

        int sitters(int withRoom) {
            int bits = 0;
            for (int p = 0; p < people; p++) {
                if (placeOf(p) < withRoom) {
                    bits |= 1 << p;
                }
            }
            return bits;
        }

        int allGuilt() {
            int sum = 0;
            for (int p = 0; p < people; p++) {
                sum += guilt[p];
            }
            return sum;
        }
    }

    /** To whom grudges lead from each one, as bits. */
    private static final class Grudges {
        final int[] leads = new int[MOST_PEOPLE];
        int people = 0;

        void fill(Chapel chapel, int forgiven) {
            people = chapel.people;
            for (int p = 0; p < people; p++) {
                leads[p] = 0;
            }
            for (int w = 0; w < chapel.wrongs; w++) {
                if (!hasBit(forgiven, w)) {
                    leads[chapel.whom[w]] |= 1 << chapel.did[w];
                }
            }
        }

        /** By how few grudges, one at least, one comes from one to another, or back to himself. */
        int fewest(int from, int goal) {
            int reached = leads[from];
            for (int steps = 1; steps <= people; steps++) {
                if (hasBit(reached, goal)) {
                    return steps;
                }
                reached = oneFurther(reached);
            }
            return NONE;
        }

        private int oneFurther(int reached) {
            int further = reached;
            for (int p = 0; p < people; p++) {
                if (hasBit(reached, p)) {
                    further |= leads[p];
                }
            }
            return further;
        }

        int shortestRing() {
            int shortest = NONE;
            for (int p = 0; p < people; p++) {
                int length = fewest(p, p);
                if (length != NONE && (shortest == NONE || length < shortest)) {
                    shortest = length;
                }
            }
            return shortest;
        }

        /** Which wrongs to forgive, as bits, so that no ring is left. */
        int fewestToForgive(Chapel chapel) {
            int all = (1 << chapel.wrongs) - 1;
            int best = all;
            int fewest = MOST_WRONGS + 1;
            for (int chosen = 0; chosen <= all; chosen++) {
                if ((chosen & chapel.forgiven) == 0 && Integer.bitCount(chosen) < fewest) {
                    fill(chapel, chapel.forgiven | chosen);
                    if (!hasRing()) {
                        best = chosen;
                        fewest = Integer.bitCount(chosen);
                    }
                }
            }
            return best;
        }

        /** Whoever bears no grudge against those who are left drops out: a ring never does. */
        private boolean hasRing() {
            int left = (1 << people) - 1;
            for (int round = 0; round < people; round++) {
                for (int p = 0; p < people; p++) {
                    if ((leads[p] & left) == 0) {
                        left &= ~(1 << p);
                    }
                }
            }
            return left != 0;
        }
    }

    /** Which wrongs to leave unforgiven for some Sundays. */
    private static final class Leaving {
        private static final int STANDING = 0;
        private static final int SITTING = 1;

        final int[][] freezes = new int[2][MOST_PEOPLE];
        final int[][] warmThen = new int[2][MOST_PEOPLE];
        int freezing = 0;
        int leastWarm = 0;
        int left = 0;

        void choose(Chapel chapel, int sundays, Bench bench) {
            lookAhead(chapel, sundays, STANDING);
            lookAhead(chapel, sundays, SITTING);
            int all = (1 << chapel.wrongs) - 1;
            for (int chosen = 0; chosen <= all; chosen++) {
                bench.fill(chapel, all & ~chosen);
                weigh(chapel.people, bench.sitters(chapel.room), chosen);
            }
        }

        /** Nothing is forgiven meanwhile, so each one sits on all of these Sundays or on none. */
        private void lookAhead(Chapel chapel, int sundays, int how) {
            for (int p = 0; p < chapel.people; p++) {
                int warm = chapel.warm[p];
                int cold = 0;
                for (int day = 0; day < sundays; day++) {
                    warm = nextWarm(warm, how == SITTING);
                    if (warm == 0) {
                        cold++;
                    }
                }
                freezes[how][p] = cold;
                warmThen[how][p] = warm;
            }
        }

        private void weigh(int people, int sitters, int chosen) {
            int cold = 0;
            int least = WARMEST;
            for (int p = 0; p < people; p++) {
                int how = hasBit(sitters, p) ? SITTING : STANDING;
                cold += freezes[how][p];
                least = Math.min(least, warmThen[how][p]);
            }
            if (chosen == 0 || isBetter(cold, least, chosen)) {
                freezing = cold;
                leastWarm = least;
                left = chosen;
            }
        }

        private boolean isBetter(int cold, int least, int chosen) {
            if (cold != freezing) {
                return cold < freezing;
            }
            if (least != leastWarm) {
                return least > leastWarm;
            }
            return Integer.bitCount(chosen) < Integer.bitCount(left);
        }
    }

    /** How likely each one sits, if each wrong that is not forgiven is forgiven by chance. */
    private static final class Chances {
        final int[] sitting = new int[MOST_PEOPLE];
        final int[] forgivenParts = new int[MOST_WRONGS + 1];
        final int[] openParts = new int[MOST_WRONGS + 1];
        int whole = 1;

        void fill(Chapel chapel, int tenths, Bench bench) {
            int all = (1 << chapel.wrongs) - 1;
            int open = all & ~chapel.forgiven;
            int openOnes = Integer.bitCount(open);
            whole = 1;
            for (int w = 0; w < openOnes; w++) {
                whole *= TENTHS;
            }
            fillParts(forgivenParts, tenths);
            fillParts(openParts, TENTHS - tenths);
            for (int p = 0; p < chapel.people; p++) {
                sitting[p] = 0;
            }
            for (int chosen = 0; chosen <= all; chosen++) {
                if ((chosen & ~open) == 0) {
                    int ones = Integer.bitCount(chosen);
                    int parts = forgivenParts[ones] * openParts[openOnes - ones];
                    if (parts > 0) {
                        bench.fill(chapel, chapel.forgiven | chosen);
                        addTo(bench.sitters(chapel.room), parts, chapel.people);
                    }
                }
            }
        }

        private static void fillParts(int[] parts, int base) {
            parts[0] = 1;
            for (int n = 1; n < parts.length; n++) {
                parts[n] = parts[n - 1] * base;
            }
        }

        private void addTo(int sitters, int parts, int people) {
            for (int p = 0; p < people; p++) {
                if (hasBit(sitters, p)) {
                    sitting[p] += parts;
                }
            }
        }

        int above(int person) {
            return sitting[person] / commonPart(whole, sitting[person]);
        }

        int below(int person) {
            return whole / commonPart(whole, sitting[person]);
        }

        /** The greatest divisor of both; 1 at least, as whole is. */
        private static int commonPart(int whole, int part) {
            int greater = whole;
            int less = part;
            for (int round = 0; round < 64 && less > 0; round++) {
                int rest = greater % less;
                greater = less;
                less = rest;
            }
            return Math.max(1, greater);
        }
    }

    /** How grave one wrong can be, by who was seen to sit. */
    private static final class Graves {
        final int[] places = new int[MOST_GRAVE + 1];
        int possible = 0;

        void fill(Chapel chapel, int wrong, Chapel trial, Bench bench) {
            trial.copyFrom(chapel);
            possible = 0;
            for (int grave = 1; grave <= MOST_GRAVE; grave++) {
                trial.grave[wrong] = grave;
                bench.fill(trial, trial.forgiven);
                places[grave] = bench.placeOf(trial.did[wrong]);
                if (isAsSeen(trial, wrong, places[grave])) {
                    possible |= 1 << (grave - 1);
                }
            }
        }

        private static boolean isAsSeen(Chapel chapel, int wrong, int place) {
            for (int s = 0; s < chapel.seen; s++) {
                if (chapel.seenWrong[s] == wrong && (place < chapel.seenRoom[s]) != chapel.seenSits[s]) {
                    return false;
                }
            }
            return true;
        }

        int bestRoom() {
            if (possible == 0) {
                return NONE;
            }
            int best = 1;
            for (int withRoom = 2; withRoom <= MOST_ROOM; withRoom++) {
                if (leftAtWorst(withRoom) < leftAtWorst(best)) {
                    best = withRoom;
                }
            }
            return best;
        }

        private int leftAtWorst(int withRoom) {
            int sitting = 0;
            for (int grave = 1; grave <= MOST_GRAVE; grave++) {
                if (hasBit(possible, grave - 1) && places[grave] < withRoom) {
                    sitting++;
                }
            }
            return Math.max(sitting, Integer.bitCount(possible) - sitting);
        }
    }

    /** Winters by a seed. */
    private static final class Weather {
        int freezing = 0;
        int seed = 0;

        void pass(Chapel chapel, int sundays, int firstSeed, Bench bench) {
            freezing = 0;
            seed = firstSeed;
            for (int day = 0; day < sundays; day++) {
                chapel.forgiven ^= 1 << draw(chapel.wrongs);
                bench.fill(chapel, chapel.forgiven);
                freezing += chapel.passSunday(bench.sitters(chapel.room));
            }
        }

        private int draw(int many) {
            seed = (int) ((1103515245L * seed + 12345L) % 2147483648L);
            return many > 0 ? seed / 65536 % many : 0;
        }
    }
}
