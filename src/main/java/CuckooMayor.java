import java.util.Arrays;
import java.util.NoSuchElementException;

/**
 * A borough run by a cuckoo clock. The words in capitals are those of the document.
 *
 * Every row is made in a constructor and used again, so that no call makes an object
 * but the exception that it throws.
 */
public final class CuckooMayor {
    public static final int NONE = -1;

    private static final int TAPE_LIMIT = 700;
    private static final int FEED_BYTES = 20;
    private static final int ALDERMEN_LIMIT = 7;
    private static final int MOTIONS_LIMIT = 10;
    private static final int ACTS_LIMIT = 40;
    private static final int SEEN_LIMIT = 8;
    private static final int HIGHEST_NUMBER = 24;
    private static final int HIGHEST_LEVEL = 99;
    private static final int HIGHEST_LEAN = 9;
    private static final int HIGHEST_HOUR = 9999;
    private static final int HIGHEST_TREASURY = 9999;
    private static final int FAR = 96;
    private static final int NEAR = 48;
    private static final int BRIBE_REFUSED = -10;

    private static final int LAW = 0;
    private static final int FEAST = 1;
    private static final int TOLL = 2;

    private static final int SAYS = 0;
    private static final int VOTES = 1;

    private static final int REFUSED_TEXTS = 0;
    private static final int REFUSED_ACTS = 1;
    private static final int REFUSED_SEEN = 2;

    /* The words of a rule's code: a NUMBER is itself, -1 to -6 are the VALUES of its kind of rule. */
    private static final int LAST_VALUE = -6;
    private static final int DO_NOT = -7;
    private static final int DO_OR = -8;
    private static final int DO_AND = -9;
    private static final int DO_LESS = -10;
    private static final int DO_EQUAL = -11;
    private static final int DO_PLUS = -12;
    private static final int DO_MINUS = -13;
    private static final int DO_TIMES = -14;
    private static final int DO_BY = -15;

    private final byte[] tape;
    private int tapeLength;
    private int faultPlace;
    private final Borough told;
    private final Borough draft;
    private final Reader reader;
    private final Affairs now;
    private final Affairs kept;
    private boolean hasImage;
    private final Clockwork clockwork;
    private final Council council;
    private final Foresight foresight;
    private final Suspicion suspicion;

    public CuckooMayor() {
        tape = new byte[TAPE_LIMIT];
        tapeLength = 0;
        faultPlace = NONE;
        told = new Borough();
        draft = new Borough();
        reader = new Reader(tape, draft);
        now = new Affairs();
        kept = new Affairs();
        hasImage = false;
        clockwork = new Clockwork(told);
        council = new Council(told, clockwork, now.town);
        foresight = new Foresight(told, clockwork, now.town);
        suspicion = new Suspicion(clockwork, now);
        now.begin(told);
    }

    public int feed(int a, int b, int c, int d, int e) {
        if (tapeLength > TAPE_LIMIT - FEED_BYTES) {
            return NONE;
        }
        putOnTape(a);
        putOnTape(b);
        putOnTape(c);
        putOnTape(d);
        putOnTape(e);
        return tapeLength;
    }

    public int borough(int n) throws IllegalArgumentException {
        if (n < 0 || n > tapeLength) {
            throw new IllegalArgumentException("the tape has not so many bytes");
        }
        tapeLength = 0;
        int fault = reader.readText(n);
        if (fault != 0) {
            faultPlace = reader.latestPlace();
            now.refused[REFUSED_TEXTS]++;
            return fault;
        }
        faultPlace = NONE;
        told.copyFrom(draft);
        now.begin(told);
        hasImage = false;
        return 0;
    }

    public int fault() {
        return faultPlace;
    }

    public int count(int what) throws NoSuchElementException {
        Town town = now.town;
        switch (what) {
            case 0: return told.aldermen;
            case 1: return told.motions;
            case 2: return town.hour;
            case 3: return town.oil;
            case 4: return town.weight;
            case 5: return town.spider;
            case 6: return town.treasury;
            case 7: return town.joy;
            case 8: return town.passed;
            case 9: return council.blockedMotions();
            case 10: return now.acts;
            case 11: return now.seen;
            case 12: return tapeLength;
            case 13: return now.refused[REFUSED_TEXTS];
            case 14: return now.refused[REFUSED_ACTS];
            case 15: return now.refused[REFUSED_SEEN];
            default: throw new NoSuchElementException("no such count");
        }
    }

    public int alderman(int alderman, int what) throws NoSuchElementException {
        checkAlderman(alderman);
        switch (what) {
            case 0: return now.town.lean[alderman];
            case 1: return told.deaf[alderman];
            case 2: return council.swayedBy(alderman);
            default: throw new NoSuchElementException("no such thing of an alderman");
        }
    }

    public int motion(int motion, int what) throws NoSuchElementException {
        checkMotion(motion);
        switch (what) {
            case 0: return told.kind[motion];
            case 1: return now.town.call[motion];
            case 2: return told.cost[motion];
            case 3: return told.joy[motion];
            case 4: return told.follows[motion];
            case 5: return now.town.isPassed(motion) ? 1 : 0;
            case 6: return Integer.bitCount(told.chainOf(motion));
            default: throw new NoSuchElementException("no such thing of a motion");
        }
    }

    public int hours(int many) {
        if (isOutside(many, 1, NEAR) || now.town.hour > HIGHEST_HOUR - many) {
            return refuseAct(NONE);
        }
        now.keepAct();
        for (int i = 0; i < many; i++) {
            clockwork.passHour(now.town, NONE);
        }
        return now.town.hour;
    }

    public int wind(int more) {
        if (isOutside(more, 1, HIGHEST_LEVEL)) {
            return refuseAct(NONE);
        }
        now.keepAct();
        now.town.weight = Math.min(HIGHEST_LEVEL, now.town.weight + more);
        return now.town.weight;
    }

    public int oil(int more) {
        if (isOutside(more, 1, HIGHEST_LEVEL)) {
            return refuseAct(NONE);
        }
        now.keepAct();
        now.town.oil = Math.min(HIGHEST_LEVEL, now.town.oil + more);
        return now.town.oil;
    }

    public int spider(int hours) {
        if (isOutside(hours, 1, 24)) {
            return refuseAct(NONE);
        }
        now.keepAct();
        int left = now.town.spider;
        now.town.spider = hours;
        return left;
    }

    public int bribe(int alderman, int much) throws NoSuchElementException {
        checkAlderman(alderman);
        if (isOutside(much, 1, 9) || much > now.town.treasury) {
            return refuseAct(BRIBE_REFUSED);
        }
        now.keepAct();
        now.town.treasury -= much;
        now.town.lean[alderman] = Math.min(HIGHEST_LEAN, now.town.lean[alderman] + much);
        return now.town.lean[alderman];
    }

    public int move(int motion, int call) throws NoSuchElementException {
        checkMotion(motion);
        if (now.town.isPassed(motion) || isOutside(call, 0, HIGHEST_NUMBER)) {
            return refuseAct(NONE);
        }
        now.keepAct();
        int before = now.town.call[motion];
        now.town.call[motion] = call;
        return before;
    }

    public int undo() {
        if (now.acts == 0) {
            return NONE;
        }
        now.takeBackAct();
        return now.acts;
    }

    public int saying(int k) throws IllegalArgumentException {
        checkRange(k, 1, FAR);
        return foresight.saidInHour(k);
    }

    public int when(int motion) throws NoSuchElementException {
        checkMotion(motion);
        if (now.town.isPassed(motion)) {
            return 0;
        }
        return foresight.hourOfPassing(motion, FAR);
    }

    public int then(int hours, int what) throws NoSuchElementException, IllegalArgumentException {
        checkWhat(what, 1);
        checkRange(hours, 0, FAR);
        Town later = foresight.townAfter(hours, NONE);
        return what == 0 ? later.treasury : later.joy;
    }

    public int fails(int what) throws NoSuchElementException {
        checkWhat(what, 1);
        return what == 0 ? foresight.firstSilentHour() : foresight.firstHoarseHour();
    }

    public int calls(int number, int hours) throws IllegalArgumentException {
        checkRange(number, 0, HIGHEST_NUMBER);
        checkRange(hours, 0, FAR);
        return foresight.timesSaid(number, hours);
    }

    public int toWind(int hours) throws IllegalArgumentException {
        checkRange(hours, 1, FAR);
        return Math.max(0, hours - now.town.weight);
    }

    public int moving(int motion, int what) throws NoSuchElementException {
        checkMotion(motion);
        checkWhat(what, 1);
        if (now.town.isPassed(motion)) {
            return NONE;
        }
        int soonest = foresight.soonestPassing(motion, NEAR);
        return (what == 1 || soonest == NONE) ? soonest : foresight.townForeseen().call[motion];
    }

    public int votes(int motion, int said) throws NoSuchElementException, IllegalArgumentException {
        checkMotion(motion);
        checkRange(said, 0, HIGHEST_NUMBER);
        return clockwork.supporters(now.town, motion, said);
    }

    public int bought(int motion, int said) throws NoSuchElementException, IllegalArgumentException {
        checkMotion(motion);
        checkRange(said, 0, HIGHEST_NUMBER);
        return council.votesLacking(clockwork.supporters(now.town, motion, said));
    }

    public int order(int what) throws NoSuchElementException {
        checkWhat(what, 1);
        int set = council.bestOrder();
        return what == 0 ? council.joyOf(set) : set;
    }

    public int bribery(int motion, int said) throws NoSuchElementException, IllegalArgumentException {
        checkMotion(motion);
        checkRange(said, 0, HIGHEST_NUMBER);
        return council.leastBribery(motion, said);
    }

    public int needs(int motion) throws NoSuchElementException {
        checkMotion(motion);
        return told.chainOf(motion) & ~now.town.passed;
    }

    public int allies(int alderman, int other) throws NoSuchElementException {
        checkAlderman(alderman);
        checkAlderman(other);
        return council.votesAlike(alderman, other);
    }

    public int passing(int hours) throws IllegalArgumentException {
        checkRange(hours, 0, FAR);
        return foresight.townAfter(hours, NONE).passed;
    }

    public int toOil(int hours) throws IllegalArgumentException {
        checkRange(hours, 1, FAR);
        // each HOUR in which something is SAID uses up one, and must find one
        int used = hours - foresight.timesSaid(NONE, hours);
        return used > HIGHEST_LEVEL ? NONE : Math.max(0, used - now.town.oil);
    }

    public int hush(int hours, int what) throws NoSuchElementException, IllegalArgumentException {
        checkWhat(what, 1);
        checkRange(hours, 0, FAR);
        return foresight.longestHush(hours, what == 1);
    }

    public int word(int hours) throws IllegalArgumentException {
        checkRange(hours, 0, FAR);
        return foresight.mostSaid(hours);
    }

    public int heldUp(int motion) throws NoSuchElementException {
        checkMotion(motion);
        int with = foresight.townAfter(NEAR, NONE).passed;
        int without = foresight.townAfter(NEAR, motion).passed;
        return without & ~with;
    }

    public int idle() {
        return council.unpassedMotions() & ~foresight.motionsCalled(FAR);
    }

    public int see(int k, int number) {
        if (now.seen >= SEEN_LIMIT || isOutside(k, 1, NEAR) || isOutside(number, NONE, HIGHEST_NUMBER)) {
            now.refused[REFUSED_SEEN]++;
            return NONE;
        }
        now.addSeen(k, number);
        return now.seen;
    }

    public int fouled(int what) throws NoSuchElementException {
        checkWhat(what, 2);
        if (what == 2) {
            return suspicion.isSoWithout() ? 1 : 0;
        }
        return what == 0 ? suspicion.howManyOils() : suspicion.leastOil();
    }

    public int listen(int what) throws NoSuchElementException {
        checkWhat(what, 1);
        return suspicion.mostUnlikeHour(what == 1);
    }

    public void forget() {
        now.seen = 0;
    }

    public int game(int motion, int other, int what) throws NoSuchElementException, IllegalArgumentException {
        checkMotion(motion);
        checkMotion(other);
        checkWhat(what, 1);
        if (motion == other || now.town.isPassed(motion) || now.town.isPassed(other)) {
            throw new IllegalArgumentException("a game is one of two motions that are not passed");
        }
        int said = clockwork.nextSaid(now.town);
        if (said == NONE) {
            throw new IllegalArgumentException("nothing would be said");
        }
        return council.restingCouples(motion, other, said, what == 1);
    }

    public int years(int seed, int n, int what) throws NoSuchElementException, IllegalArgumentException {
        checkWhat(what, 2);
        checkRange(n, 0, FAR);
        int silent = foresight.silentHoursBySeed(seed, n);
        if (what == 2) {
            return silent;
        }
        Town later = foresight.townForeseen();
        return what == 0 ? later.howManyPassed() : later.joy;
    }

    public void image() {
        kept.copyFrom(now);
        hasImage = true;
    }

    public boolean restore() {
        if (!hasImage) {
            return false;
        }
        now.copyFrom(kept);
        return true;
    }

    private void putOnTape(int number) {
        for (int shift = 24; shift >= 0; shift -= 8) {
            if (tapeLength >= 0 && tapeLength < tape.length) {
                tape[tapeLength] = (byte) (number >> shift);
                tapeLength++;
            }
        }
    }

    private int refuseAct(int answer) {
        now.refused[REFUSED_ACTS]++;
        return answer;
    }

    private void checkAlderman(int alderman) {
        if (alderman < 0 || alderman >= told.aldermen) {
            throw new NoSuchElementException("no such alderman");
        }
    }

    private void checkMotion(int motion) {
        if (motion < 0 || motion >= told.motions) {
            throw new NoSuchElementException("no such motion");
        }
    }

    private static void checkWhat(int what, int highest) {
        if (isOutside(what, 0, highest)) {
            throw new NoSuchElementException("no such what");
        }
    }

    private static void checkRange(int number, int lowest, int highest) {
        if (isOutside(number, lowest, highest)) {
            throw new IllegalArgumentException("a number outside its range");
        }
    }

    private static boolean isOutside(int number, int lowest, int highest) {
        return number < lowest || number > highest;
    }

    /** What a TEXT tells: it stays until the next TEXT. */
    private static final class Borough {
        int oil;
        int weight;
        int treasury;
        int aldermen;
        final int[] lean = new int[ALDERMEN_LIMIT];
        final int[] deaf = new int[ALDERMEN_LIMIT];
        int motions;
        final int[] kind = new int[MOTIONS_LIMIT];
        final int[] call = new int[MOTIONS_LIMIT];
        final int[] cost = new int[MOTIONS_LIMIT];
        final int[] joy = new int[MOTIONS_LIMIT];
        final int[] follows = new int[MOTIONS_LIMIT];
        /** Both rules, as words to be done one after the other. */
        final int[] code = new int[TAPE_LIMIT];
        int codeLength;
        final int[] ruleFrom = new int[2];
        final int[] ruleTo = new int[2];

        Borough() {
            clear();
        }

        void clear() {
            oil = 20;
            weight = 24;
            treasury = 100;
            aldermen = 0;
            motions = 0;
            codeLength = 0;
            Arrays.fill(ruleFrom, 0);
            Arrays.fill(ruleTo, 0);
        }

        void copyFrom(Borough other) {
            oil = other.oil;
            weight = other.weight;
            treasury = other.treasury;
            aldermen = other.aldermen;
            motions = other.motions;
            codeLength = other.codeLength;
            System.arraycopy(other.lean, 0, lean, 0, ALDERMEN_LIMIT);
            System.arraycopy(other.deaf, 0, deaf, 0, ALDERMEN_LIMIT);
            System.arraycopy(other.kind, 0, kind, 0, MOTIONS_LIMIT);
            System.arraycopy(other.call, 0, call, 0, MOTIONS_LIMIT);
            System.arraycopy(other.cost, 0, cost, 0, MOTIONS_LIMIT);
            System.arraycopy(other.joy, 0, joy, 0, MOTIONS_LIMIT);
            System.arraycopy(other.follows, 0, follows, 0, MOTIONS_LIMIT);
            System.arraycopy(other.code, 0, code, 0, TAPE_LIMIT);
            System.arraycopy(other.ruleFrom, 0, ruleFrom, 0, 2);
            System.arraycopy(other.ruleTo, 0, ruleTo, 0, 2);
        }

        boolean hasRule(int rule) {
            return ruleTo[rule] > ruleFrom[rule];
        }

        /** The MOTIONS that a MOTION follows, one behind the other, as bits. */
        int chainOf(int motion) {
            int chain = 0;
            int ahead = follows[motion];
            for (int i = 0; i < MOTIONS_LIMIT && ahead >= 0 && ahead < motions; i++) {
                chain |= 1 << ahead;
                ahead = follows[ahead];
            }
            return chain;
        }

        /** What a MOTION does to all JOY. */
        int pleasure(int motion) {
            return kind[motion] == FEAST ? 2 * joy[motion] : joy[motion];
        }

        /** What a MOTION takes out of TREASURY: below 0, what it brings. */
        int expense(int motion) {
            return kind[motion] == TOLL ? -cost[motion] : cost[motion];
        }
    }

    /** All that HOURS and ACTS change. */
    private static final class Town {
        static final int WIDTH = 7 + ALDERMEN_LIMIT + MOTIONS_LIMIT;

        int hour;
        int oil;
        int weight;
        int spider;
        int treasury;
        int joy;
        int passed;
        final int[] lean = new int[ALDERMEN_LIMIT];
        final int[] call = new int[MOTIONS_LIMIT];

        void begin(Borough borough) {
            hour = 0;
            oil = borough.oil;
            weight = borough.weight;
            spider = 0;
            treasury = borough.treasury;
            joy = 0;
            passed = 0;
            System.arraycopy(borough.lean, 0, lean, 0, ALDERMEN_LIMIT);
            System.arraycopy(borough.call, 0, call, 0, MOTIONS_LIMIT);
        }

        void copyFrom(Town other) {
            hour = other.hour;
            oil = other.oil;
            weight = other.weight;
            spider = other.spider;
            treasury = other.treasury;
            joy = other.joy;
            passed = other.passed;
            System.arraycopy(other.lean, 0, lean, 0, ALDERMEN_LIMIT);
            System.arraycopy(other.call, 0, call, 0, MOTIONS_LIMIT);
        }

        void writeTo(int[] rows, int at) {
            if (at < 0 || at > rows.length - WIDTH) {
                return;
            }
            rows[at] = hour;
            rows[at + 1] = oil;
            rows[at + 2] = weight;
            rows[at + 3] = spider;
            rows[at + 4] = treasury;
            rows[at + 5] = joy;
            rows[at + 6] = passed;
            System.arraycopy(lean, 0, rows, at + 7, ALDERMEN_LIMIT);
            System.arraycopy(call, 0, rows, at + 7 + ALDERMEN_LIMIT, MOTIONS_LIMIT);
        }

        void readFrom(int[] rows, int at) {
            if (at < 0 || at > rows.length - WIDTH) {
                return;
            }
            hour = rows[at];
            oil = rows[at + 1];
            weight = rows[at + 2];
            spider = rows[at + 3];
            treasury = rows[at + 4];
            joy = rows[at + 5];
            passed = rows[at + 6];
            System.arraycopy(rows, at + 7, lean, 0, ALDERMEN_LIMIT);
            System.arraycopy(rows, at + 7 + ALDERMEN_LIMIT, call, 0, MOTIONS_LIMIT);
        }

        boolean isPassed(int motion) {
            return ((passed >> motion) & 1) == 1;
        }

        int howManyPassed() {
            return Integer.bitCount(passed);
        }
    }

    /** All that an IMAGE keeps. */
    private static final class Affairs {
        final Town town = new Town();
        /** What the town was ahead of each ACT that is kept, the oldest first. */
        final int[] before = new int[ACTS_LIMIT * Town.WIDTH];
        int acts;
        final int[] seenHour = new int[SEEN_LIMIT];
        final int[] seenNumber = new int[SEEN_LIMIT];
        int seen;
        final int[] refused = new int[3];

        /** STATUS counts calls on the object, so it goes on with another BOROUGH. */
        void begin(Borough borough) {
            town.begin(borough);
            acts = 0;
            seen = 0;
        }

        void copyFrom(Affairs other) {
            town.copyFrom(other.town);
            System.arraycopy(other.before, 0, before, 0, before.length);
            acts = other.acts;
            System.arraycopy(other.seenHour, 0, seenHour, 0, SEEN_LIMIT);
            System.arraycopy(other.seenNumber, 0, seenNumber, 0, SEEN_LIMIT);
            seen = other.seen;
            System.arraycopy(other.refused, 0, refused, 0, 3);
        }

        void keepAct() {
            if (acts >= ACTS_LIMIT) {
                System.arraycopy(before, Town.WIDTH, before, 0, before.length - Town.WIDTH);
                acts = ACTS_LIMIT - 1;
            }
            town.writeTo(before, acts * Town.WIDTH);
            acts++;
        }

        void takeBackAct() {
            if (acts > 0) {
                acts--;
                town.readFrom(before, acts * Town.WIDTH);
            }
        }

        void addSeen(int k, int number) {
            if (seen >= 0 && seen < SEEN_LIMIT) {
                seenHour[seen] = k;
                seenNumber[seen] = number;
                seen++;
            }
        }
    }

    /** The HOUR: what is SAID, who votes how, what is PASSED. */
    private static final class Clockwork {
        private final Borough borough;
        private final int[] values = new int[6];
        /** An EXPR within 5 others, each waiting with five operators, needs 31. */
        private final int[] stack = new int[40];

        Clockwork(Borough borough) {
            this.borough = borough;
        }

        /** An HOUR goes by, in which one MOTION (or NONE) is never voted on: what is SAID. */
        int passHour(Town town, int without) {
            int said = say(town);
            for (int m = 0; m < borough.motions && said != NONE; m++) {
                if (m != without && town.call[m] == said && mayBeVotedOn(town, m) && wouldPass(town, m, said)) {
                    pass(town, m);
                }
            }
            turn(town);
            return said;
        }

        /** An HOUR goes by in which nobody votes; votes never change what is SAID. */
        int passHourUnheeded(Town town) {
            int said = say(town);
            turn(town);
            return said;
        }

        private int say(Town town) {
            int said = nextSaid(town);
            if (said != NONE) {
                town.oil = Math.max(0, town.oil - 1);
            }
            return said;
        }

        /** What is SAID in the HOUR that comes: to ask uses up no OIL. */
        int nextSaid(Town town) {
            if (town.weight == 0 || town.spider > 0) {
                return NONE;
            }
            int said = town.hour % 12 == 0 ? 12 : town.hour % 12;
            if (borough.hasRule(SAYS)) {
                values[0] = said;
                values[1] = town.oil;
                values[2] = town.weight;
                values[3] = town.hour / 24;
                said = Math.max(0, Math.min(HIGHEST_NUMBER, resultOf(SAYS)));
            }
            return town.oil == 0 ? said / 2 : said;
        }

        private void turn(Town town) {
            town.weight = Math.max(0, town.weight - 1);
            town.spider = Math.max(0, town.spider - 1);
            town.hour++;
        }

        private boolean mayBeVotedOn(Town town, int motion) {
            int ahead = borough.follows[motion];
            return !town.isPassed(motion) && (ahead == NONE || town.isPassed(ahead));
        }

        /** Whether a MOTION would be PASSED, were it voted on at a number. */
        boolean wouldPass(Town town, int motion, int said) {
            return borough.expense(motion) <= town.treasury && carries(supporters(town, motion, said));
        }

        private void pass(Town town, int motion) {
            town.passed |= 1 << motion;
            town.treasury = Math.min(HIGHEST_TREASURY, town.treasury - borough.expense(motion));
            town.joy += borough.pleasure(motion);
        }

        /** Whether more ALDERMEN are for it than not. */
        boolean carries(int supporters) {
            return 2 * Integer.bitCount(supporters) > borough.aldermen;
        }

        /** The ALDERMEN that are for a MOTION at a number, as bits. */
        int supporters(Town town, int motion, int said) {
            int supporters = 0;
            for (int a = 0; a < borough.aldermen; a++) {
                if (isFor(town, a, town.lean[a], motion, said)) {
                    supporters |= 1 << a;
                }
            }
            return supporters;
        }

        /** Whether an ALDERMAN would be for a MOTION at a number, were that his LEAN. */
        boolean isFor(Town town, int alderman, int lean, int motion, int said) {
            if (!borough.hasRule(VOTES)) {
                return lean + borough.joy[motion] > 0;
            }
            values[0] = Math.max(0, said - borough.deaf[alderman]);
            values[1] = lean;
            values[2] = borough.cost[motion];
            values[3] = borough.joy[motion];
            values[4] = borough.kind[motion];
            values[5] = town.howManyPassed();
            return resultOf(VOTES) > 0;
        }

        private int resultOf(int rule) {
            int top = 0;
            int to = Math.min(borough.ruleTo[rule], borough.code.length);
            for (int i = Math.max(0, borough.ruleFrom[rule]); i < to; i++) {
                int word = borough.code[i];
                if (word >= LAST_VALUE) {
                    if (top < stack.length) {
                        stack[top] = word >= 0 ? word : values[-1 - word];
                        top++;
                    }
                } else if (word == DO_NOT) {
                    if (top >= 1) {
                        stack[top - 1] = stack[top - 1] == 0 ? 1 : 0;
                    }
                } else if (top >= 2) {
                    top--;
                    int left = stack[top - 1];
                    int right = stack[top];
                    switch (word) {
                        case DO_OR: left = (left != 0 || right != 0) ? 1 : 0; break;
                        case DO_AND: left = (left != 0 && right != 0) ? 1 : 0; break;
                        case DO_LESS: left = left < right ? 1 : 0; break;
                        case DO_EQUAL: left = left == right ? 1 : 0; break;
                        case DO_PLUS: left = left + right; break;
                        case DO_MINUS: left = left - right; break;
                        case DO_TIMES: left = left * right; break;
                        default: left = right == 0 ? 0 : left / right; break;
                    }
                    stack[top - 1] = left;
                }
            }
            return stack[0];
        }
    }

    /** What is asked of ALDERMEN and MOTIONS as they are now. */
    private static final class Council {
        private final Borough borough;
        private final Clockwork clockwork;
        private final Town town;
        private final int[] prices = new int[ALDERMEN_LIMIT];

        Council(Borough borough, Clockwork clockwork, Town town) {
            this.borough = borough;
            this.clockwork = clockwork;
            this.town = town;
        }

        int unpassedMotions() {
            return ((1 << borough.motions) - 1) & ~town.passed;
        }

        int blockedMotions() {
            int blocked = 0;
            for (int m = 0; m < borough.motions; m++) {
                int ahead = borough.follows[m];
                if (!town.isPassed(m) && ahead != NONE && !town.isPassed(ahead)) {
                    blocked |= 1 << m;
                }
            }
            return blocked;
        }

        int swayedBy(int alderman) {
            int swayed = 0;
            for (int m = 0; m < borough.motions; m++) {
                if (!town.isPassed(m)) {
                    int supporters = clockwork.supporters(town, m, town.call[m]);
                    if (clockwork.carries(supporters) != clockwork.carries(supporters ^ (1 << alderman))) {
                        swayed |= 1 << m;
                    }
                }
            }
            return swayed;
        }

        int votesAlike(int alderman, int other) {
            int alike = 0;
            for (int m = 0; m < borough.motions; m++) {
                if (!town.isPassed(m) && supports(alderman, m) == supports(other, m)) {
                    alike++;
                }
            }
            return alike;
        }

        private boolean supports(int alderman, int motion) {
            return clockwork.isFor(town, alderman, town.lean[alderman], motion, town.call[motion]);
        }

        int votesLacking(int supporters) {
            if (borough.aldermen == 0) {
                return 0;
            }
            return Math.max(0, borough.aldermen / 2 + 1 - Integer.bitCount(supporters));
        }

        int leastBribery(int motion, int said) {
            if (borough.aldermen == 0) {
                return NONE;
            }
            for (int a = 0; a < borough.aldermen; a++) {
                prices[a] = priceOf(a, motion, said);
            }
            int sum = 0;
            for (int wanted = borough.aldermen / 2 + 1; wanted > 0; wanted--) {
                int cheapest = takeCheapest();
                if (cheapest == NONE) {
                    return NONE;
                }
                sum += cheapest;
            }
            return sum;
        }

        /** The least that an ALDERMAN's LEAN must be more, so that he is for it. */
        private int priceOf(int alderman, int motion, int said) {
            int lean = town.lean[alderman];
            for (int more = 0; more <= HIGHEST_LEAN - lean; more++) {
                if (clockwork.isFor(town, alderman, lean + more, motion, said)) {
                    return more;
                }
            }
            return NONE;
        }

        private int takeCheapest() {
            int cheapest = NONE;
            for (int a = 0; a < borough.aldermen; a++) {
                if (prices[a] != NONE && (cheapest == NONE || prices[a] < prices[cheapest])) {
                    cheapest = a;
                }
            }
            if (cheapest == NONE) {
                return NONE;
            }
            int price = prices[cheapest];
            prices[cheapest] = NONE;
            return price;
        }

        int bestOrder() {
            int best = 0;
            for (int set = 1; set < 1 << borough.motions; set++) {
                if (isOrder(set) && isBetter(set, best)) {
                    best = set;
                }
            }
            return best;
        }

        private boolean isOrder(int set) {
            int expense = 0;
            for (int m = 0; m < borough.motions; m++) {
                if (((set >> m) & 1) == 1) {
                    int ahead = borough.follows[m];
                    if (town.isPassed(m) || (ahead != NONE && (((set | town.passed) >> ahead) & 1) == 0)) {
                        return false;
                    }
                    expense += borough.expense(m);
                }
            }
            return expense <= town.treasury;
        }

        /** Sets come with their bits rising, so that of like ones the first stays. */
        private boolean isBetter(int set, int best) {
            int more = joyOf(set) - joyOf(best);
            return more > 0 || (more == 0 && Integer.bitCount(set) < Integer.bitCount(best));
        }

        int joyOf(int set) {
            int joy = 0;
            for (int m = 0; m < borough.motions; m++) {
                if (((set >> m) & 1) == 1) {
                    joy += borough.pleasure(m);
                }
            }
            return joy;
        }

        /** How many couples REST, or the first one. */
        int restingCouples(int motion, int other, int said, boolean first) {
            boolean passes = clockwork.wouldPass(town, motion, said);
            boolean otherPasses = clockwork.wouldPass(town, other, said);
            int joy = borough.joy[motion];
            int otherJoy = borough.joy[other];
            int many = 0;
            for (int a = 0; a <= 1; a++) {
                for (int b = 0; b <= 1; b++) {
                    if (gain(a, b, passes, joy) >= gain(1 - a, b, passes, joy)
                            && gain(b, a, otherPasses, otherJoy) >= gain(1 - b, a, otherPasses, otherJoy)) {
                        if (first) {
                            return 10 * a + b;
                        }
                        many++;
                    }
                }
            }
            return first ? NONE : many;
        }

        private static int gain(int choice, int others, boolean passes, int joy) {
            if (choice == 1) {
                return 0;
            }
            if (!passes) {
                return -1;
            }
            return others == 1 ? 2 * joy : joy;
        }
    }

    /** What comes, if only HOURS go by: all of it happens to a trial town. */
    private static final class Foresight {
        private final Borough borough;
        private final Clockwork clockwork;
        private final Town town;
        private final Town trial = new Town();
        private final int[] times = new int[HIGHEST_NUMBER + 1];
        private int seed;

        Foresight(Borough borough, Clockwork clockwork, Town town) {
            this.borough = borough;
            this.clockwork = clockwork;
            this.town = town;
        }

        /** The town after so many HOURS, in which one MOTION (or NONE) is never voted on. */
        Town townAfter(int hours, int without) {
            trial.copyFrom(town);
            for (int i = 0; i < hours; i++) {
                clockwork.passHour(trial, without);
            }
            return trial;
        }

        /** The town as the latest question left it. */
        Town townForeseen() {
            return trial;
        }

        int saidInHour(int k) {
            trial.copyFrom(town);
            int said = NONE;
            for (int i = 0; i < k; i++) {
                said = clockwork.passHourUnheeded(trial);
            }
            return said;
        }

        /** In which of so many HOURS a MOTION is PASSED. */
        int hourOfPassing(int motion, int hours) {
            trial.copyFrom(town);
            for (int i = 1; i <= hours; i++) {
                clockwork.passHour(trial, NONE);
                if (trial.isPassed(motion)) {
                    return i;
                }
            }
            return NONE;
        }

        /** In which of so many HOURS a MOTION could be PASSED first: its CALL in the trial town is the one by which. */
        int soonestPassing(int motion, int hours) {
            trial.copyFrom(town);
            for (int i = 1; i <= hours; i++) {
                // until it is PASSED its CALL changes nothing else, so it may be another one in each HOUR
                trial.call[motion] = clockwork.nextSaid(trial);
                clockwork.passHour(trial, NONE);
                if (trial.isPassed(motion)) {
                    return i;
                }
            }
            return NONE;
        }

        int firstSilentHour() {
            trial.copyFrom(town);
            for (int i = 1; i <= FAR; i++) {
                if (clockwork.passHourUnheeded(trial) == NONE) {
                    return i;
                }
            }
            return NONE;
        }

        int firstHoarseHour() {
            trial.copyFrom(town);
            for (int i = 1; i <= FAR; i++) {
                boolean dry = trial.oil == 0;
                if (clockwork.passHourUnheeded(trial) != NONE && dry) {
                    return i;
                }
            }
            return NONE;
        }

        /** How often a number (or nothing) is SAID. */
        int timesSaid(int number, int hours) {
            trial.copyFrom(town);
            int many = 0;
            for (int i = 0; i < hours; i++) {
                if (clockwork.passHourUnheeded(trial) == number) {
                    many++;
                }
            }
            return many;
        }

        int longestHush(int hours, boolean beginIsAsked) {
            trial.copyFrom(town);
            int longest = 0;
            int begin = NONE;
            int row = 0;
            for (int i = 1; i <= hours; i++) {
                row = clockwork.passHourUnheeded(trial) == NONE ? row + 1 : 0;
                if (row > longest) {
                    longest = row;
                    begin = i - row + 1;
                }
            }
            return beginIsAsked ? begin : longest;
        }

        int mostSaid(int hours) {
            countSaid(hours);
            int most = 0;
            int number = NONE;
            for (int i = 0; i < times.length; i++) {
                if (times[i] > most) {
                    most = times[i];
                    number = i;
                }
            }
            return number;
        }

        private void countSaid(int hours) {
            trial.copyFrom(town);
            Arrays.fill(times, 0);
            for (int i = 0; i < hours; i++) {
                int said = clockwork.passHourUnheeded(trial);
                if (said >= 0 && said < times.length) {
                    times[said]++;
                }
            }
        }

        /** The MOTIONS whose CALL is SAID. */
        int motionsCalled(int hours) {
            countSaid(hours);
            int called = 0;
            for (int m = 0; m < borough.motions; m++) {
                int call = town.call[m];
                if (call >= 0 && call < times.length && times[call] > 0) {
                    called |= 1 << m;
                }
            }
            return called;
        }

        /** YEARS: how often nothing was SAID. */
        int silentHoursBySeed(int firstSeed, int hours) {
            seed = firstSeed;
            trial.copyFrom(town);
            int silent = 0;
            for (int i = 0; i < hours; i++) {
                meetChance();
                if (clockwork.passHour(trial, NONE) == NONE) {
                    silent++;
                }
            }
            return silent;
        }

        private void meetChance() {
            switch (drawnBits() % 12) {
                case 0:
                    trial.weight = 24;
                    break;
                case 1:
                    trial.oil = Math.min(HIGHEST_LEVEL, trial.oil + 9);
                    break;
                case 2:
                    trial.spider = drawnBits() % 5 + 1;
                    break;
                default:
                    break;
            }
        }

        private int drawnBits() {
            seed = seed * 1103515245 + 12345;
            return (seed >> 16) & 0x7fff;
        }
    }

    /** What was wrong with the clock, by what is SEEN. */
    private static final class Suspicion {
        private final Clockwork clockwork;
        private final Affairs affairs;
        private final Town trial = new Town();
        private final int[] heard = new int[NEAR];
        /** For each HOUR what is SAID by some OIL, as bits, nothing being bit 0. */
        private final int[] unlike = new int[NEAR];

        Suspicion(Clockwork clockwork, Affairs affairs) {
            this.clockwork = clockwork;
            this.affairs = affairs;
        }

        boolean isSoWithout() {
            return fitsAll(affairs.town.oil, latestSeen());
        }

        int howManyOils() {
            int hours = latestSeen();
            int many = 0;
            for (int oil = 0; oil <= HIGHEST_LEVEL; oil++) {
                if (oil != affairs.town.oil && fitsAll(oil, hours)) {
                    many++;
                }
            }
            return many;
        }

        int leastOil() {
            int hours = latestSeen();
            for (int oil = 0; oil <= HIGHEST_LEVEL; oil++) {
                if (oil != affairs.town.oil && fitsAll(oil, hours)) {
                    return oil;
                }
            }
            return NONE;
        }

        int mostUnlikeHour(boolean howManyIsAsked) {
            Arrays.fill(unlike, 0);
            for (int oil = 0; oil <= HIGHEST_LEVEL; oil++) {
                if (oil != affairs.town.oil && fitsAll(oil, NEAR)) {
                    addHeard();
                }
            }
            int most = 0;
            int hour = NONE;
            for (int i = 0; i < NEAR; i++) {
                int many = Integer.bitCount(unlike[i]);
                if (many > most) {
                    most = many;
                    hour = i + 1;
                }
            }
            return howManyIsAsked ? most : hour;
        }

        private void addHeard() {
            for (int i = 0; i < NEAR; i++) {
                unlike[i] |= 1 << (heard[i] + 1);
            }
        }

        private int latestSeen() {
            int latest = 0;
            for (int i = 0; i < affairs.seen; i++) {
                latest = Math.max(latest, affairs.seenHour[i]);
            }
            return latest;
        }

        /** Whether all SEEN would be so, were that OIL now; so many HOURS, no fewer than were SEEN, are heard. */
        private boolean fitsAll(int oil, int hours) {
            trial.copyFrom(affairs.town);
            trial.oil = oil;
            for (int i = 0; i < hours && i < NEAR; i++) {
                heard[i] = clockwork.passHourUnheeded(trial);
            }
            for (int i = 0; i < affairs.seen; i++) {
                int at = affairs.seenHour[i] - 1;
                if (at >= 0 && at < NEAR && heard[at] != affairs.seenNumber[i]) {
                    return false;
                }
            }
            return true;
        }
    }

    /** Reads a TEXT into a draft, up to its first FAULT. */
    private static final class Reader {
        private static final int END = 0;
        private static final int NO_TOKEN = 1;
        private static final int NUMBER = 2;
        private static final String SIGNS = ";()+-*/<=";
        private static final int SEMICOLON = 3;
        private static final int OPEN = 4;
        private static final int CLOSE = 5;
        private static final int PLUS = 6;
        private static final int MINUS = 7;
        private static final int TIMES = 8;
        private static final int BY = 9;
        private static final int LESS = 10;
        private static final int EQUAL = 11;
        /** The kinds of words are this one, for those that mean nothing, and above, in the order of WORDS. */
        private static final int OTHER_WORD = 12;
        private static final String WORDS =
                "clock alderman law feast toll says votes behind or and not hour oil weight day heard lean cost joy kind passed ";
        private static final int CLOCK = 13;
        private static final int ALDERMAN = 14;
        private static final int WORD_LAW = 15;
        private static final int WORD_FEAST = 16;
        private static final int WORD_TOLL = 17;
        private static final int WORD_SAYS = 18;
        private static final int WORD_VOTES = 19;
        private static final int BEHIND = 20;
        private static final int OR = 21;
        private static final int AND = 22;
        private static final int NOT = 23;
        private static final int FIRST_OF_SAYS = 24;
        private static final int FIRST_OF_VOTES = 28;
        private static final int BEHIND_VALUES = 34;

        private static final int CANNOT_STAND = 1;
        private static final int TOO_MUCH = 2;
        private static final int NOT_TOLD = 3;
        private static final int A_SECOND = 5;

        private static final int MOST_DIGITS = 4;
        private static final int DEPTH_LIMIT = 6;
        private static final int NOTS_LIMIT = 6;
        /** Stands among the operators that wait where a parenthesis is open. */
        private static final int OPENED = 0;

        private final byte[] tape;
        private final Borough draft;
        private int end;
        private int place;
        private int token;
        private int start;
        private int digits;
        private int number;
        private int fault;
        private boolean clockIsTold;
        /** Operators of an EXPR that wait for what stands behind them: at most 12 in each of 6 EXPR. */
        private final int[] waiting = new int[80];
        private int waits;
        private int depth;
        private int nots;
        private boolean partIsDue;
        private boolean notMayStand;

        Reader(byte[] tape, Borough draft) {
            this.tape = tape;
            this.draft = draft;
        }

        /** The FAULT of the tape's first bytes; 0 without, and the draft is what they tell. */
        int readText(int length) {
            end = Math.min(length, tape.length);
            place = 0;
            fault = 0;
            clockIsTold = false;
            draft.clear();
            nextToken();
            for (int i = 0; i <= TAPE_LIMIT && fault == 0 && token != END; i++) {
                readLine();
            }
            return fault;
        }

        /** Behind a FAULT no TOKEN is read, so that the latest one is its place. */
        int latestPlace() {
            return start;
        }

        private void readLine() {
            switch (token) {
                case CLOCK: readClock(); break;
                case ALDERMAN: readAlderman(); break;
                case WORD_LAW: readMotion(LAW); break;
                case WORD_FEAST: readMotion(FEAST); break;
                case WORD_TOLL: readMotion(TOLL); break;
                case WORD_SAYS: readRule(SAYS); break;
                case WORD_VOTES: readRule(VOTES); break;
                default: fault = CANNOT_STAND; break;
            }
            if (fault == 0 && token != SEMICOLON) {
                fault = CANNOT_STAND;
            }
            if (fault == 0) {
                nextToken();
            }
        }

        private void readClock() {
            if (clockIsTold) {
                fault = A_SECOND;
                return;
            }
            clockIsTold = true;
            nextToken();
            draft.oil = readNumber(0, HIGHEST_LEVEL);
            draft.weight = readNumber(0, HIGHEST_LEVEL);
            draft.treasury = readNumber(0, 999);
        }

        private void readAlderman() {
            int a = draft.aldermen;
            if (a >= ALDERMEN_LIMIT) {
                fault = TOO_MUCH;
                return;
            }
            nextToken();
            draft.lean[a] = readNumber(-HIGHEST_LEAN, HIGHEST_LEAN);
            draft.deaf[a] = readNumber(0, 9);
            draft.aldermen++;
        }

        private void readMotion(int kind) {
            int m = draft.motions;
            if (m >= MOTIONS_LIMIT) {
                fault = TOO_MUCH;
                return;
            }
            nextToken();
            draft.kind[m] = kind;
            draft.call[m] = readNumber(0, HIGHEST_NUMBER);
            draft.cost[m] = readNumber(0, 99);
            draft.joy[m] = readNumber(-9, 9);
            draft.follows[m] = NONE;
            if (fault == 0 && token == BEHIND) {
                nextToken();
                if (token == NUMBER && digits <= MOST_DIGITS && number >= m) {
                    fault = NOT_TOLD;
                }
                draft.follows[m] = readNumber(0, MOTIONS_LIMIT - 1);
            }
            draft.motions++;
        }

        /** A NUMBER, perhaps behind a '-' if it may be below 0; nothing is read behind a FAULT. */
        private int readNumber(int lowest, int highest) {
            boolean below = fault == 0 && lowest < 0 && token == MINUS;
            if (below) {
                nextToken();
            }
            if (fault == 0 && token != NUMBER) {
                fault = CANNOT_STAND;
            }
            if (fault == 0 && (digits > MOST_DIGITS || number > highest)) {
                fault = TOO_MUCH;
            }
            if (fault != 0) {
                return 0;
            }
            int read = below ? -number : number;
            nextToken();
            return read;
        }

        private void readRule(int rule) {
            if (draft.hasRule(rule)) {
                fault = A_SECOND;
                return;
            }
            nextToken();
            waits = 0;
            depth = 0;
            nots = 0;
            partIsDue = true;
            notMayStand = true;
            draft.ruleFrom[rule] = draft.codeLength;
            for (int i = 0; i <= TAPE_LIMIT && fault == 0 && !ruleEnds(); i++) {
                if (partIsDue) {
                    readPart(rule);
                } else {
                    readBehindPart();
                }
                if (fault == 0) {
                    nextToken();
                }
            }
            doWaiting(1);
            draft.ruleTo[rule] = draft.codeLength;
        }

        private boolean ruleEnds() {
            return token == SEMICOLON && !partIsDue && depth == 0;
        }

        /** The TOKEN where a PART, or a 'not' ahead of it, must stand. */
        private void readPart(int rule) {
            boolean isWord = token >= OTHER_WORD;
            if (token != NUMBER && token != OPEN && !isWord) {
                fault = CANNOT_STAND;
            } else if (depth >= DEPTH_LIMIT || (token == NUMBER && digits > MOST_DIGITS)) {
                fault = TOO_MUCH;
            } else if (token == NUMBER) {
                putCode(number);
                partIsDue = false;
            } else if (token == OPEN) {
                putWaiting(OPENED);
                depth++;
                nots = 0;
                notMayStand = true;
            } else if (token == NOT && notMayStand) {
                readNot();
            } else {
                readValue(rule);
            }
        }

        private void readNot() {
            if (nots >= NOTS_LIMIT) {
                fault = TOO_MUCH;
                return;
            }
            nots++;
            putWaiting(DO_NOT);
        }

        private void readValue(int rule) {
            int first = rule == SAYS ? FIRST_OF_SAYS : FIRST_OF_VOTES;
            int behind = rule == SAYS ? FIRST_OF_VOTES : BEHIND_VALUES;
            if (token < first || token >= behind) {
                fault = NOT_TOLD;
                return;
            }
            putCode(first - token - 1);
            partIsDue = false;
        }

        /** The TOKEN behind a PART: an operator, or a parenthesis that is closed. */
        private void readBehindPart() {
            int word = operatorOf(token);
            if (word == 0 && (token != CLOSE || depth == 0)) {
                fault = CANNOT_STAND;
                return;
            }
            if (word == 0) {
                doWaiting(1);
                waits--;
                depth--;
                return;
            }
            boolean isTest = word == DO_LESS || word == DO_EQUAL;
            doWaiting(isTest ? strengthOf(word) + 1 : strengthOf(word));
            if (isTest && waits > 0 && strengthOf(waiting[waits - 1]) == strengthOf(word)) {
                // a test of a test stands in a parenthesis, or nowhere
                fault = CANNOT_STAND;
                return;
            }
            putWaiting(word);
            partIsDue = true;
            notMayStand = word == DO_OR || word == DO_AND;
            nots = 0;
        }

        /** The operators that wait behind the latest open parenthesis, and bind so strongly, are done. */
        private void doWaiting(int strength) {
            for (int i = waits; i > 0 && i <= waiting.length && strengthOf(waiting[i - 1]) >= strength; i--) {
                putCode(waiting[i - 1]);
                waits = i - 1;
            }
        }

        private void putWaiting(int word) {
            if (waits >= 0 && waits < waiting.length) {
                waiting[waits] = word;
                waits++;
            }
        }

        private void putCode(int word) {
            int at = draft.codeLength;
            if (at >= 0 && at < draft.code.length) {
                draft.code[at] = word;
                draft.codeLength = at + 1;
            }
        }

        private static int operatorOf(int token) {
            switch (token) {
                case OR: return DO_OR;
                case AND: return DO_AND;
                case LESS: return DO_LESS;
                case EQUAL: return DO_EQUAL;
                case PLUS: return DO_PLUS;
                case MINUS: return DO_MINUS;
                case TIMES: return DO_TIMES;
                case BY: return DO_BY;
                default: return 0;
            }
        }

        private static int strengthOf(int word) {
            switch (word) {
                case DO_OR: return 1;
                case DO_AND: return 2;
                case DO_NOT: return 3;
                case DO_LESS: return 4;
                case DO_EQUAL: return 4;
                case DO_PLUS: return 5;
                case DO_MINUS: return 5;
                case DO_TIMES: return 6;
                case DO_BY: return 6;
                default: return 0;
            }
        }

        private void nextToken() {
            while (place < end && (tape[place] == ' ' || tape[place] == '\n')) {
                place++;
            }
            start = place;
            if (place >= end) {
                token = END;
                return;
            }
            int sign = tape[place];
            if (sign >= 'a' && sign <= 'z') {
                readLetters();
            } else if (sign >= '0' && sign <= '9') {
                readDigits();
            } else {
                int at = sign < 0 ? -1 : SIGNS.indexOf((char) sign);
                token = at < 0 ? NO_TOKEN : SEMICOLON + at;
                place++;
            }
        }

        private void readLetters() {
            while (place < end && tape[place] >= 'a' && tape[place] <= 'z') {
                place++;
            }
            token = OTHER_WORD;
            int kind = OTHER_WORD + 1;
            int at = start;
            boolean same = true;
            for (int i = 0; i < WORDS.length(); i++) {
                char letter = WORDS.charAt(i);
                if (letter != ' ') {
                    same = same && at < place && tape[at] == letter;
                    at++;
                } else {
                    if (same && at == place) {
                        token = kind;
                    }
                    kind++;
                    at = start;
                    same = true;
                }
            }
        }

        private void readDigits() {
            number = 0;
            while (place < end && tape[place] >= '0' && tape[place] <= '9') {
                if (place - start < MOST_DIGITS) {
                    number = 10 * number + tape[place] - '0';
                }
                place++;
            }
            token = NUMBER;
            digits = place - start;
        }
    }
}
