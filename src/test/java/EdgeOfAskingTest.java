/**
 * Each sentence about a question that names an edge ("Terms" ==== 3 and 4, promises 15 to 33, 35, 36, 38, 39).
 * With "clock 99 99 0" WEIGHT is 100 - k ahead of the k-th HOUR, so that "says (weight=4)*7" says 7 in the 96th alone.
 */
public final class EdgeOfAskingTest {
    private static final long NO_SUCH = Check.NO_SUCH;
    private static final long ILLEGAL = Check.ILLEGAL;
    private static final int[] WRONG_HOURS = {-1, 97, Check.LEAST, Check.MOST};
    private static final int[] WRONG_NUMBERS = {-1, 25, Check.LEAST, Check.MOST};

    public static void main(String[] args) {
        questionsChangeNothing();
        saying();
        when();
        then();
        silent();
        hoarse();
        calls();
        toWind();
        moving();
        movingAmongOthers();
        votes();
        bought();
        swayed();
        blocked();
        orderWithinTreasury();
        orderOfLikeOnes();
        orderThatFollows();
        bribery();
        needs();
        allies();
        passing();
        toOil();
        hush();
        word();
        heldUp();
        idle();
        fouled();
        listen();
        listenOfLikeOnes();
        gameRefused();
        gameRests();
        years();
        yearsDraws();
        Check.end();
    }

    private static void due(String what, long want, Check.Call call) { Check.due(what, want, call); }

    /** Says 7 in the k-th HOUR from now alone, else 0; one ALDERMAN is for whatever is not heard as 0. */
    private static CuckooMayor sevenIn(int k, String motions) {
        return Check.town("clock 99 99 10;alderman 0 0;votes heard;says (weight=" + (100 - k) + ")*7;" + motions);
    }

    /** ".. (If only HOURS go by, from now on:)": no question changes anything. */
    private static void questionsChangeNothing() {
        CuckooMayor x = Check.town("clock 5 30 40;alderman 3 0;alderman -2 4;law 2 10 5;feast 3 20 2 behind 0;toll 4 15 -1;law 9 99 9 behind 1;");
        x.hours(1);
        x.see(2, 2);
        x.spider(2);
        String all = Check.all(x) + Check.status(x);
        Check.Call[] asks = {() -> x.saying(96), () -> x.when(0), () -> x.then(96, 0), () -> x.then(96, 1), () -> x.fails(0), () -> x.fails(1), () -> x.calls(2, 96), () -> x.toWind(96), () -> x.moving(3, 0), () -> x.moving(0, 1),
            () -> x.votes(0, 3), () -> x.bought(0, 3), () -> x.order(0), () -> x.order(1), () -> x.bribery(2, 5), () -> x.needs(3), () -> x.allies(0, 1), () -> x.passing(96), () -> x.toOil(96), () -> x.hush(96, 0),
            () -> x.hush(96, 1), () -> x.word(96), () -> x.heldUp(0), () -> x.idle(), () -> x.fouled(0), () -> x.fouled(1), () -> x.fouled(2), () -> x.listen(0), () -> x.listen(1), () -> x.years(3, 96, 0),
            () -> x.years(3, 96, 1), () -> x.years(3, 96, 2), () -> x.alderman(0, 2), () -> x.count(9), () -> x.fault()};
        for (int i = 0; i < asks.length; i++) {
            long first = asks[i].answer();
            Check.holds("question " + i + " changes nothing", all.equals(Check.all(x) + Check.status(x)));
            int which = i;
            due("question " + i + " asked again", first, () -> asks[which].answer());
        }
        x.spider(1);
        x.hours(1);
        long game = x.game(2, 3, 0);
        all = Check.all(x) + Check.status(x);
        due("a game asked again", game, () -> x.game(2, 3, 0));
        Check.holds("a game changes nothing", all.equals(Check.all(x) + Check.status(x)));
    }

    /** Promise 15: "SAYING; NONE: nothing. IllegalArgumentException: not 1 to 96". */
    private static void saying() {
        CuckooMayor x = Check.town("clock 99 99 0;");
        Check.range("saying", 1, 96, ILLEGAL, x::saying);
        due("saying(1)", 12, () -> x.saying(1));
        due("saying(96)", 11, () -> x.saying(96));
        CuckooMayor y = Check.town("clock 99 95 0;");
        due("the 95th of 95", 10, () -> y.saying(95));
        due("the 96th of 95", -1, () -> y.saying(96));
        CuckooMayor z = sevenIn(96, "");
        due("the 95th", 0, () -> z.saying(95));
        due("the 96th", 7, () -> z.saying(96));
    }

    /** Promise 16: "WHEN; NONE: none": "(1 to 96; 0: it is)". */
    private static void when() {
        for (int k : new int[] {1, 2, 95, 96}) { int want = k; due("in the " + k, want, () -> sevenIn(want, "law 7 0 0;").when(0)); }
        due("in the 97th", -1, () -> sevenIn(97, "law 7 0 0;").when(0));
        CuckooMayor x = sevenIn(97, "law 7 0 0;law 0 0 0;");
        x.hours(1);
        due("one HOUR on", 96, () -> x.when(0));
        x.hours(48);
        x.hours(47);
        due("95 HOURS on", 1, () -> x.when(0));
        x.hours(1);
        due("it is", 0, () -> x.when(0));
        due("never for it", -1, () -> x.when(1));
        due("TREASURY 10 and COST 11", -1, () -> sevenIn(1, "law 7 11 0;").when(0));
        due("TREASURY 10 and COST 10", 1, () -> sevenIn(1, "law 7 10 0;").when(0));
        due("without ALDERMEN", -1, () -> Check.town("law 12 0 9;").when(0));
        CuckooMayor moved = sevenIn(5, "law 9 0 0;");
        due("at 9", -1, () -> moved.when(0));
        moved.move(0, 7);
        due("moved to 7", 5, () -> moved.when(0));
    }

    /** Promise 17: "NoSuchElementException: another what. IllegalArgumentException (behind that): not 0 to 96". */
    private static void then() {
        CuckooMayor x = sevenIn(96, "feast 7 4 3;");
        for (int w = 0; w <= 1; w++) { int what = w; Check.range("then of " + w, 0, 96, ILLEGAL, h -> x.then(h, what)); }
        Check.range("then what", 0, 1, NO_SUCH, w -> x.then(0, w));
        for (int h : WRONG_HOURS) for (int w : new int[] {-1, 2, Check.LEAST, Check.MOST}) due("then(" + h + ", " + w + ")", NO_SUCH, () -> x.then(h, w));
        due("TREASURY in 0", 10, () -> x.then(0, 0));
        due("TREASURY in 95", 10, () -> x.then(95, 0));
        due("TREASURY in 96", 6, () -> x.then(96, 0));
        due("JOY in 0", 0, () -> x.then(0, 1));
        due("JOY in 95", 0, () -> x.then(95, 1));
        due("JOY in 96", 6, () -> x.then(96, 1));
        CuckooMayor y = sevenIn(1, "toll 7 4 -3;");
        due("TREASURY in 1", 14, () -> y.then(1, 0));
        due("JOY in 1, below 0", -3, () -> y.then(1, 1));
        y.hours(1);
        due("JOY in 0, as it is", -3, () -> y.then(0, 1));
        due("TREASURY in 0, as it is", 14, () -> y.then(0, 0));
    }

    /** Promise 18, what 0: "in which HOUR from now (1 to 96) nothing is SAID first; none". */
    private static void silent() {
        CuckooMayor x = new CuckooMayor();
        Check.range("fails", 0, 1, NO_SUCH, x::fails);
        int[][] weights = {{0, 1}, {1, 2}, {24, 25}, {94, 95}, {95, 96}, {96, -1}, {97, -1}, {99, -1}};
        for (int[] w : weights) due("SILENT of WEIGHT " + w[0], w[1], () -> Check.town("clock 9 " + w[0] + " 0;").fails(0));
        CuckooMayor y = Check.town("clock 9 99 0;");
        y.spider(1);
        due("a SPIDER", 1, () -> y.fails(0));
        y.hours(1);
        due("no SPIDER", -1, () -> y.fails(0));
    }

    /** Promise 18, what 1: "in which HOUR from now (1 to 96) it first says half; none". */
    private static void hoarse() {
        int[][] oils = {{0, 1}, {1, 2}, {94, 95}, {95, 96}, {96, -1}, {97, -1}, {99, -1}};
        for (int[] o : oils) due("HOARSE of OIL " + o[0], o[1], () -> Check.town("clock " + o[0] + " 99 0;").fails(1));
        due("WEIGHT as long as OIL", -1, () -> Check.town("clock 5 5 0;").fails(1));
        due("WEIGHT one more", 6, () -> Check.town("clock 5 6 0;").fails(1));
        due("no WEIGHT", -1, () -> Check.town("clock 0 0 0;").fails(1));
        due("half of 0", 1, () -> Check.town("clock 0 1 0;says 0;").fails(1));
        CuckooMayor x = Check.town("clock 0 25 0;");
        x.spider(24);
        due("behind a SPIDER", 25, () -> x.fails(1));
        x.hours(1);
        x.spider(24);
        due("a SPIDER as long as WEIGHT", -1, () -> x.fails(1));
        CuckooMayor y = Check.town("clock 3 99 0;");
        y.spider(2);
        due("a SPIDER uses none", 6, () -> y.fails(1));
    }

    /** Promise 19: "CALLS. IllegalArgumentException: not 0 to 24, not 0 to 96". */
    private static void calls() {
        CuckooMayor x = sevenIn(96, "");
        Check.range("calls of a number", 0, 24, ILLEGAL, n -> x.calls(n, 96));
        Check.range("calls of a number in 0", 0, 24, ILLEGAL, n -> x.calls(n, 0));
        Check.range("calls in HOURS", 0, 96, ILLEGAL, h -> x.calls(0, h));
        Check.range("calls of 24 in HOURS", 0, 96, ILLEGAL, h -> x.calls(24, h));
        for (int n : WRONG_NUMBERS) for (int h : WRONG_HOURS) due("calls(" + n + ", " + h + ")", ILLEGAL, () -> x.calls(n, h));
        due("7 in 0", 0, () -> x.calls(7, 0));
        due("7 in 95", 0, () -> x.calls(7, 95));
        due("7 in 96", 1, () -> x.calls(7, 96));
        due("0 in 0", 0, () -> x.calls(0, 0));
        due("0 in 1", 1, () -> x.calls(0, 1));
        due("0 in 96", 95, () -> x.calls(0, 96));
        due("24 in 96", 96, () -> Check.town("clock 99 99 0;says 24;").calls(24, 96));
        due("nothing is not 0", 0, () -> Check.town("clock 99 0 0;").calls(0, 96));
    }

    /** Promise 20: "TO WIND. IllegalArgumentException: not 1 to 96": "were there no SPIDER". */
    private static void toWind() {
        for (int weight : new int[] {0, 1, 24, 95, 96, 97, 99}) {
            CuckooMayor x = Check.town("clock 9 " + weight + " 0;");
            Check.range("toWind", 1, 96, ILLEGAL, x::toWind);
            for (int hours : new int[] {1, 2, weight - 1, weight, weight + 1, 95, 96}) {
                if (hours < 1 || hours > 96) continue;
                int want = Math.max(0, hours - weight);
                due("toWind(" + hours + ") of WEIGHT " + weight, want, () -> x.toWind(hours));
                x.spider(24);
                due("with a SPIDER", want, () -> x.toWind(hours));
                x.undo();
                if (want > 0) {
                    x.wind(want);
                    Check.holds("wound so, it is enough", x.fails(0) == -1 || x.fails(0) > hours);
                    x.undo();
                }
            }
        }
    }

    /** Promise 21: "the CALL (what 0), the HOUR (1); NONE: none, PASSED": "in 48 HOURS". */
    private static void moving() {
        for (int k : new int[] {1, 2, 47, 48}) {
            CuckooMayor x = sevenIn(k, "law 20 0 0;");
            int want = k;
            due("the CALL", 7, () -> x.moving(0, 0));
            due("in the " + k, want, () -> x.moving(0, 1));
            due("its CALL stays", 20, () -> x.motion(0, 1));
        }
        CuckooMayor far = sevenIn(49, "law 7 0 0;law 20 0 0;");
        for (int m = 0; m < 2; m++) {
            int motion = m;
            due("in the 49th: no CALL", -1, () -> far.moving(motion, 0));
            due("in the 49th: no HOUR", -1, () -> far.moving(motion, 1));
            Check.range("moving what", 0, 1, NO_SUCH, w -> far.moving(motion, w) + 1);
        }
        for (int m : new int[] {-1, 2, Check.LEAST, Check.MOST}) for (int w : new int[] {-1, 0, 2}) due("moving(" + m + ", " + w + ")", NO_SUCH, () -> far.moving(m, w));
        for (int said : new int[] {0, 1, 23, 24}) due("the CALL " + said, said, () -> Check.town("alderman 0 0;votes 1;law 9 0 0;says " + said + ";").moving(0, 0));
        CuckooMayor behind = Check.town("alderman 0 0;votes 1;law 2 0 0;law 9 0 0 behind 0;");
        due("as soon as the one that it follows", 2, () -> behind.moving(1, 0));
        due("in the same HOUR", 3, () -> behind.moving(1, 1));
        behind.hours(3);
        due("of a PASSED one no CALL", -1, () -> behind.moving(0, 0));
        due("of a PASSED one no HOUR", -1, () -> behind.moving(0, 1));
        due("of a PASSED one another what", NO_SUCH, () -> behind.moving(0, 2));
        due("at once then", 3, () -> behind.moving(1, 0));
        CuckooMayor deaf = Check.town("clock 99 99 0;alderman 0 3;votes heard-2;law 9 0 0;");
        due("the first number that is heard well: 12", 12, () -> deaf.moving(0, 0));
        deaf.hours(1);
        due("the first one then: 6", 6, () -> deaf.moving(0, 0));
        due("in the sixth from now", 6, () -> deaf.moving(0, 1));
        due("nobody is ever for it", -1, () -> Check.town("alderman 0 0;law 12 0 0;").moving(0, 1));
    }

    private static void moving(String text, int spider, int motion, int call, int hour) {
        CuckooMayor x = Check.town(text);
        if (spider > 0) x.spider(spider);
        due("the CALL by which " + motion + " of " + text, call, () -> x.moving(motion, 0));
        due("the HOUR in which " + motion + " of " + text, hour, () -> x.moving(motion, 1));
    }

    /** "the CALL (0 to 24) by which, were it that from now on, it would be PASSED soonest": HOURS without a word, by half, and other MOTIONS ahead of it. */
    private static void movingAmongOthers() {
        moving("alderman 0 0;votes 1;law 9 0 0;", 5, 0, 5, 6);
        moving("alderman 0 0;votes 1;law 9 0 0;", 24, 0, -1, -1);
        moving("clock 0 24 0;alderman 0 0;votes 1;law 9 0 0;", 0, 0, 6, 1);
        moving("clock 0 24 0;alderman 0 0;votes heard=0;law 9 0 0;", 0, 0, 0, 2);
        moving("clock 9 0 0;alderman 0 0;votes 1;law 12 0 0;", 0, 0, -1, -1);
        moving("clock 9 1 0;alderman 0 0;votes heard<12;law 9 0 0;", 0, 0, -1, -1);
        moving("clock 9 2 0;alderman 0 0;votes heard<12;law 9 0 0;", 0, 0, 1, 2);
        moving("clock 20 24 10;alderman 0 0;votes 1;law 12 10 1;law 9 5 1;toll 3 5 1;", 0, 1, 4, 5);
        moving("clock 20 24 10;alderman 0 0;votes 1;law 12 10 1;toll 3 5 1;law 9 5 1;", 0, 2, 3, 4);
        moving("clock 20 24 10;alderman 0 0;votes 1;law 9 5 1;law 12 10 1;", 0, 0, 12, 1);
        moving("clock 20 24 10;alderman 0 0;votes passed=kind;toll 4 0 1;law 9 0 1;toll 5 0 1;", 0, 0, -1, -1);
        moving("clock 20 24 10;alderman 0 0;votes passed=kind;feast 4 0 1;law 9 0 1;", 0, 0, 10, 11);
        moving("clock 20 24 10;alderman 0 0;votes passed=kind;law 9 0 1;feast 4 0 1;", 0, 1, 9, 10);
    }

    /** Promise 22: "FOR, as bits. IllegalArgumentException (behind NoSuchElementException): not 0 to 24". */
    private static void votes() {
        CuckooMayor x = Check.town("alderman 0 0;".repeat(7) + "law 1 1 1;law 1 1 0;votes joy*heard;");
        due("all seven", 127, () -> x.votes(0, 24));
        due("none of seven", 0, () -> x.votes(1, 24));
        due("at 1", 127, () -> x.votes(0, 1));
        due("at 0", 0, () -> x.votes(0, 0));
        Check.Ask[] asks = {n -> x.votes(0, n), n -> x.bought(0, n), n -> x.bribery(0, n) + 1};
        for (int i = 0; i < 3; i++) Check.range("a number SAID (" + i + ")", 0, 24, ILLEGAL, asks[i]);
        for (int m : new int[] {-1, 2, 10, Check.LEAST, Check.MOST}) {
            for (int n : new int[] {0, 24, -1, 25, Check.LEAST, Check.MOST}) {
                due("votes(" + m + ", " + n + ")", NO_SUCH, () -> x.votes(m, n));
                due("bought(" + m + ", " + n + ")", NO_SUCH, () -> x.bought(m, n));
                due("bribery(" + m + ", " + n + ")", NO_SUCH, () -> x.bribery(m, n));
            }
        }
        CuckooMayor none = Check.town("law 1 1 1;");
        due("no ALDERMEN", 0, () -> none.votes(0, 1));
        for (int a = 0; a < 7; a++) {
            int want = 1 << a;
            String text = "alderman 0 0;".repeat(a) + "alderman 1 0;" + "alderman 0 0;".repeat(6 - a) + "law 1 1 0;";
            due("ALDERMAN " + a + " alone", want, () -> Check.town(text).votes(0, 1));
        }
    }

    /** Promise 23: "the fewest ALDERMEN who must be for it besides, so that more are for it than not (0 without ALDERMEN)". */
    private static void bought() {
        int[][] lacking = {{0}, {1, 0}, {2, 1, 0}, {2, 1, 0, 0}, {3, 2, 1, 0, 0}, {3, 2, 1, 0, 0, 0}, {4, 3, 2, 1, 0, 0, 0}, {4, 3, 2, 1, 0, 0, 0, 0}};
        for (int all = 0; all <= 7; all++) {
            for (int some = 0; some <= all; some++) {
                String text = "law 1 1 0;" + "alderman 1 0;".repeat(some) + "alderman 0 0;".repeat(all - some);
                int want = lacking[all][some];
                due(some + " of " + all + " for it", want, () -> Check.town(text).bought(0, 1));
            }
        }
    }

    /** Promise 6, what 2: "it would be otherwise whether more are for it than not, did he alone vote otherwise". */
    private static void swayed() {
        for (int all = 1; all <= 7; all++) {
            for (int some = 0; some <= all; some++) {
                CuckooMayor x = Check.town("law 1 1 0;" + "alderman 1 0;".repeat(some) + "alderman 0 0;".repeat(all - some));
                for (int a = 0; a < all; a++) {
                    int who = a;
                    int otherwise = a < some ? some - 1 : some + 1;
                    int want = some * 2 > all != otherwise * 2 > all ? 1 : 0;
                    due(some + " of " + all + ", one of them " + (a < some ? "for it" : "not"), want, () -> x.alderman(who, 2));
                }
            }
        }
        CuckooMayor y = Check.town("alderman 0 0;alderman 0 9;alderman 0 9;votes heard;law 0 1 1;law 9 1 1;law 10 1 1;law 12 1 1;");
        due("SWAYED by the first: none for it, one, all, all", 0, () -> y.alderman(0, 2));
        due("SWAYED by the second", 2, () -> y.alderman(1, 2));
        y.move(2, 9);
        due("at the CALLS now", 6, () -> y.alderman(1, 2));
        y.hours(1);
        due("of what isn't PASSED", 6, () -> y.alderman(1, 2));
        y.move(2, 1);
        y.move(1, 10);
        due("of what isn't PASSED, moved", 4, () -> y.alderman(1, 2));
        due("without MOTIONS", 0, () -> Check.town("alderman 1 1;").alderman(0, 2));
        CuckooMayor ten = Check.town("alderman 0 0;" + "law 1 1 1;".repeat(10));
        due("all ten", 1023, () -> ten.alderman(0, 2));
        CuckooMayor once = Check.town("alderman 1 0;law 12 0 0;law 1 0 0;");
        once.hours(1);
        due("one is PASSED", 2, () -> once.alderman(0, 2));
    }

    /** Promise 5, what 9: "MOTIONS that aren't PASSED and follow one that isn't". */
    private static void blocked() {
        CuckooMayor x = Check.town("alderman 0 0;votes 1;law 12 0 0;law 1 0 0 behind 0;law 2 0 0 behind 1;law 3 0 0 behind 0;law 20 0 0;");
        int[] blocked = {14, 4, 0, 0, 0};
        for (int i = 0; i < blocked.length; i++) {
            int want = blocked[i];
            due("BLOCKED in HOUR " + i, want, () -> x.count(9));
            x.hours(1);
        }
    }

    /** Promise 24: "which cost no more than TREASURY together (tolls count below 0)"; "the empty one, too". */
    private static void orderWithinTreasury() {
        order("clock 9 9 10;law 1 10 1;", 1, 1);
        order("clock 9 9 10;law 1 11 1;", 0, 0);
        order("clock 9 9 10;law 1 6 1;law 1 4 1;", 3, 2);
        order("clock 9 9 10;law 1 6 1;law 1 5 2;", 2, 2);
        order("clock 9 9 0;law 1 0 1;", 1, 1);
        order("clock 9 9 0;law 1 1 1;", 0, 0);
        order("clock 9 9 0;toll 1 10 1;law 1 10 1;", 3, 2);
        order("clock 9 9 0;toll 1 10 1;law 1 11 1;", 1, 1);
        order("clock 9 9 0;law 1 10 5;toll 1 10 -4;", 3, 1);
        order("clock 9 9 0;law 1 10 5;toll 1 10 -5;", 0, 0);
        order("clock 9 9 0;law 1 10 5;toll 1 10 -6;", 0, 0);
        order("clock 9 9 5;law 1 5 3;feast 1 5 2;", 2, 4);
        order("clock 9 9 5;law 1 5 4;feast 1 5 2;", 1, 4);
        order("clock 9 9 5;law 1 0 -1;feast 1 0 -1;toll 1 0 -1;", 0, 0);
        order("", 0, 0);
        order("clock 9 9 99;" + "law1 10 1;".repeat(10), 511, 9);
        order("clock 9 9 100;" + "law1 10 1;".repeat(10), 1023, 10);
        CuckooMayor x = new CuckooMayor();
        Check.range("order", 0, 1, NO_SUCH, x::order);
    }

    private static void order(String text, int set, int joy) {
        CuckooMayor x = Check.town(text);
        due("the ORDER of " + text, set, () -> x.order(1));
        due("its JOY", joy, () -> x.order(0));
    }

    /** Promise 24: "of like ones with fewest, then the least as bits". */
    private static void orderOfLikeOnes() {
        order("clock 9 9 10;law 1 5 2;law 1 5 2;law 1 10 4;", 4, 4);
        order("clock 9 9 10;law 1 5 2;law 1 5 2;law 1 10 3;", 3, 4);
        order("clock 9 9 5;law 1 5 2;law 1 5 2;law 1 5 2;", 1, 2);
        order("clock 9 9 10;law 1 5 2;law 1 5 2;law 1 5 2;", 3, 4);
        order("clock 9 9 5;law 1 5 1;law 1 5 2;law 1 5 2;", 2, 2);
        order("clock 9 9 9;law 1 0 0;law 1 0 0;", 0, 0);
        order("clock 9 9 9;law 1 0 0;law 1 0 1;feast 1 0 0;", 2, 1);
    }

    /** Promise 24: "MOTIONS that aren't PASSED (with each one that it follows, if that isn't PASSED)". */
    private static void orderThatFollows() {
        order("clock 9 9 10;law 1 6 0;law 1 4 3 behind 0;", 3, 3);
        order("clock 9 9 10;law 1 6 0;law 1 5 3 behind 0;", 0, 0);
        order("clock 9 9 10;law 1 0 -2;law 1 0 -2 behind 0;law 1 0 5 behind 1;", 7, 1);
        order("clock 9 9 10;law 1 0 -2;law 1 0 -2 behind 0;law 1 0 4 behind 1;", 0, 0);
        CuckooMayor x = Check.town("clock 9 9 10;alderman 9 0;law 12 6 -1;law 1 5 9 behind 0;law 1 4 3 behind 0;");
        due("with the first", 5, () -> x.order(1));
        due("its JOY", 2, () -> x.order(0));
        x.hours(1);
        due("the first being PASSED", 4, () -> x.order(1));
        due("its JOY then", 3, () -> x.order(0));
    }

    private static void bribery(int want, String text) {
        due("BRIBERY of " + text, want, () -> Check.town(text).bribery(0, 5));
    }

    /** Promise 25: "each ALDERMAN's LEAN may be more (by 1 to as many as make it 9): the least .. so that more are for it than not; none". */
    private static void bribery() {
        bribery(-1, "law 1 1 9;");
        bribery(0, "alderman 1 0;law 1 1 0;");
        bribery(1, "alderman 0 0;law 1 1 0;");
        bribery(18, "alderman -9 0;law 1 1 -8;");
        bribery(-1, "alderman -9 0;law 1 1 -9;");
        bribery(18, "alderman -9 0;law 1 1 0;votes lean=9;");
        bribery(-1, "alderman -9 0;law 1 1 0;votes lean=10;");
        bribery(0, "alderman 9 0;law 1 1 0;votes lean=9;");
        bribery(-1, "alderman 9 0;law 1 1 0;votes 0;");
        bribery(1, "alderman 8 0;law 1 1 0;votes lean=9;");
        bribery(0, "alderman -1 0;law 1 1 0;votes lean<0;");
        bribery(-1, "alderman 0 0;law 1 1 0;votes lean<0;");
        bribery(1, "alderman 4 0;law 1 1 0;votes lean=3 or lean=5 or lean=9;");
        bribery(0, "clock 9 9 0;alderman 1 0;law 1 1 0;");
        bribery(9, "clock 9 9 0;alderman 0 0;law 1 1 -8;");
        for (int all = 1; all <= 7; all++) bribery(2 * (all / 2 + 1), "alderman -1 0;".repeat(all) + "law 1 1 0;");
        bribery(3, "alderman 1 0;alderman -2 0;alderman -5 0;law 1 1 0;");
        bribery(0, "alderman 1 0;alderman 1 0;alderman -5 0;law 1 1 0;");
        bribery(6, "alderman 1 0;alderman 1 0;alderman -5 0;alderman -6 0;law 1 1 0;");
        bribery(1, "alderman 0 1;alderman 0 2;alderman 0 5;law 1 1 0;votes lean+heard-3;");
        CuckooMayor x = Check.town("alderman -3 0;law 12 1 0;votes lean=0 or heard=12;");
        due("at 5", 3, () -> x.bribery(0, 5));
        due("at 12", 0, () -> x.bribery(0, 12));
        x.bribe(0, 2);
        due("of LEAN now", 1, () -> x.bribery(0, 5));
        x.hours(1);
        due("of a PASSED one, too", 1, () -> x.bribery(0, 5));
    }

    /** Promise 26: "MOTIONS that aren't PASSED and that a MOTION follows, one behind the other". */
    private static void needs() {
        CuckooMayor x = Check.town("alderman 0 0;votes 1;law 12 0 0;law 1 0 0 behind 0;law 2 0 0 behind 1;law 3 0 0;law 4 0 0 behind 2;");
        int[][] needs = {{0, 1, 3, 0, 7}, {0, 0, 2, 0, 6}, {0, 0, 0, 0, 4}, {0, 0, 0, 0, 0}};
        for (int[] row : needs) {
            for (int m = 0; m < 5; m++) { int motion = m; due("needs(" + m + ")", row[m], () -> x.needs(motion)); }
            x.hours(1);
        }
    }

    /** Promise 27: "of MOTIONS that aren't PASSED, voted on at their CALLS now, how many two ALDERMEN are both for, or both not". */
    private static void allies() {
        CuckooMayor x = Check.town("alderman 0 0;alderman 0 5;votes heard;law 0 0 0;law 1 0 0;law 5 0 0;law 6 0 0;law 12 0 0;");
        due("both not, one, one, both, both", 3, () -> x.allies(0, 1));
        due("the other way round", 3, () -> x.allies(1, 0));
        due("one with himself", 5, () -> x.allies(0, 0));
        x.move(2, 24);
        due("moved", 4, () -> x.allies(0, 1));
        x.hours(1);
        due("12 needs both, and is PASSED", 3, () -> x.allies(0, 1));
        due("one with himself then", 4, () -> x.allies(1, 1));
        for (int a : new int[] {-1, 2, 7, Check.LEAST, Check.MOST}) {
            due("allies(" + a + ", 0)", NO_SUCH, () -> x.allies(a, 0));
            due("allies(0, " + a + ")", NO_SUCH, () -> x.allies(0, a));
            due("allies(" + a + ", " + a + ")", NO_SUCH, () -> x.allies(a, a));
        }
        due("without MOTIONS", 0, () -> Check.town("alderman 1 1;alderman 1 1;").allies(0, 1));
    }

    /** Promise 28: "PASSING, as bits. IllegalArgumentException: not 0 to 96". */
    private static void passing() {
        CuckooMayor x = sevenIn(96, "law 7 0 0;law 0 0 0;law 7 0 0;");
        Check.range("passing", 0, 96, ILLEGAL, x::passing);
        due("in 0", 0, () -> x.passing(0));
        due("in 95", 0, () -> x.passing(95));
        due("in 96", 5, () -> x.passing(96));
        x.hours(48);
        x.hours(48);
        due("in 0, as it is", 5, () -> x.passing(0));
    }

    /** Promise 29: "TO OIL; NONE: none. IllegalArgumentException: not 1 to 96"; 99 in all is always enough for 96 HOURS. */
    private static void toOil() {
        for (int oil : new int[] {0, 1, 20, 95, 96, 97, 99}) {
            CuckooMayor x = Check.town("clock " + oil + " 99 0;");
            Check.range("toOil", 1, 96, ILLEGAL, x::toOil);
            for (int hours : new int[] {1, 2, oil - 1, oil, oil + 1, 95, 96}) {
                if (hours < 1 || hours > 96) continue;
                int want = Math.max(0, hours - oil);
                due("toOil(" + hours + ") of OIL " + oil, want, () -> x.toOil(hours));
            }
        }
        CuckooMayor y = Check.town("clock 3 10 0;");
        due("as long as WEIGHT", 7, () -> y.toOil(10));
        due("no longer", 7, () -> y.toOil(96));
        y.spider(4);
        due("no OIL for a SPIDER", 0, () -> y.toOil(7));
        due("the first behind", 1, () -> y.toOil(8));
        due("all of them", 3, () -> y.toOil(96));
        due("without WEIGHT", 0, () -> Check.town("clock 0 0 0;").toOil(96));
        due("half of 0 is said by half", 1, () -> Check.town("clock 0 1 0;says 0;").toOil(1));
    }

    private static void hush(CuckooMayor x, int hours, int howLong, int begin) {
        due("hush(" + hours + ", 0)", howLong, () -> x.hush(hours, 0));
        due("hush(" + hours + ", 1)", begin, () -> x.hush(hours, 1));
    }

    /** Promise 30: "how long (what 0), in which HOUR (1; NONE). .. another what. IllegalArgumentException (behind that): not 0 to 96". */
    private static void hush() {
        CuckooMayor x = Check.town("clock 99 90 0;");
        for (int w = 0; w <= 1; w++) { int what = w; Check.range("hush of " + w, 0, 96, ILLEGAL, h -> x.hush(h, what)); }
        Check.range("hush what", 0, 1, NO_SUCH, w -> x.hush(0, w));
        for (int h : WRONG_HOURS) for (int w : new int[] {-1, 2, Check.LEAST, Check.MOST}) due("hush(" + h + ", " + w + ")", NO_SUCH, () -> x.hush(h, w));
        hush(x, 0, 0, -1);
        hush(x, 1, 0, -1);
        hush(x, 90, 0, -1);
        hush(x, 91, 1, 91);
        hush(x, 96, 6, 91);
        x.spider(5);
        hush(x, 0, 0, -1);
        hush(x, 1, 1, 1);
        hush(x, 4, 4, 1);
        hush(x, 90, 5, 1);
        hush(x, 95, 5, 1);
        hush(x, 96, 6, 91);
        x.spider(6);
        hush(x, 96, 6, 1);
        CuckooMayor still = Check.town("clock 9 0 0;");
        hush(still, 0, 0, -1);
        hush(still, 96, 96, 1);
    }

    /** Promise 31: "THE WORD; NONE: none. IllegalArgumentException: not 0 to 96": "of like ones the least". */
    private static void word() {
        CuckooMayor x = Check.town("clock 99 99 0;says (weight<53)*7;");
        Check.range("word", 0, 96, ILLEGAL, x::word);
        due("in 0", -1, () -> x.word(0));
        due("in 1", 0, () -> x.word(1));
        due("47 of each", 0, () -> x.word(94));
        due("48 of 7, 47 of 0", 7, () -> x.word(95));
        due("49 of 7", 7, () -> x.word(96));
        due("24", 24, () -> Check.town("says 24;").word(1));
        due("0", 0, () -> Check.town("says 0;").word(1));
        due("nothing is SAID", -1, () -> Check.town("clock 9 0 9;").word(96));
        due("24 and 23", 23, () -> Check.town("says 23+(hour=12);").word(2));
        CuckooMayor y = Check.town("clock 9 9 9;says 5;");
        y.spider(8);
        due("a SPIDER's HOURS", -1, () -> y.word(8));
        due("the one behind", 5, () -> y.word(9));
    }

    /** Promise 32: "others that aren't PASSED in 48 HOURS, but would be, were that one never voted on". */
    private static void heldUp() {
        for (int k : new int[] {2, 47, 48, 49, 96}) {
            CuckooMayor x = Check.town("clock 99 99 10;alderman 0 0;votes 1;says (weight=" + (100 - k) + ")*7;law 0 10 0;law 7 10 0;law 7 10 0;law 7 0 0;law 7 0 0 behind 0;");
            int want = k <= 48 ? 2 : 0;
            due("in the " + k, want, () -> x.heldUp(0));
            due("by one that isn't PASSED", 0, () -> x.heldUp(1));
            due("by one that costs nothing", 0, () -> x.heldUp(3));
        }
        CuckooMayor y = Check.town("clock 9 9 10;alderman 0 0;votes 1;law 12 10 0;law 1 10 0;law 2 10 0;");
        due("it holds up the next", 2, () -> y.heldUp(0));
        due("which holds up none", 0, () -> y.heldUp(1));
        y.hours(1);
        due("it is PASSED", 0, () -> y.heldUp(0));
        CuckooMayor count = Check.town("alderman 0 0;votes passed=0 or passed=1 and joy;law 12 0 0;law 12 0 0;law 12 0 1;law 12 0 0;");
        due("by how many are PASSED", 2, () -> count.heldUp(0));
        due("that one is let through", 0, () -> count.heldUp(1));
        due("by the second one that is PASSED", 0, () -> count.heldUp(2));
        for (int m : new int[] {-1, 3, Check.LEAST, Check.MOST}) due("heldUp(" + m + ")", NO_SUCH, () -> y.heldUp(m));
    }

    /** Promise 33: "MOTIONS that aren't PASSED whose CALL isn't SAID in 96 HOURS". */
    private static void idle() {
        for (int k : new int[] {1, 95, 96, 97}) {
            int want = k <= 96 ? 4 : 5;
            due("SAID in the " + k, want, () -> sevenIn(k, "law 7 99 0;law 0 99 0;law 8 99 0;").idle());
        }
        due("nothing is SAID", 7, () -> Check.town("clock 9 0 9;law 0 0 0;law 12 0 0;law 24 0 0;").idle());
        due("without MOTIONS", 0, () -> new CuckooMayor().idle());
        due("all ten", 1023, () -> Check.town("law13 0 0;".repeat(10)).idle());
        due("by half", 1, () -> Check.town("clock 0 1 0;law 12 0 0;law 6 0 0;").idle());
        CuckooMayor x = Check.town("clock 9 1 9;alderman 0 0;votes 1;law 12 0 0;law 1 0 0;");
        due("SAID once", 2, () -> x.idle());
        x.hours(1);
        due("the one that is PASSED isn't idle", 2, () -> x.idle());
        x.move(1, 12);
        due("what was SAID is over", 2, () -> x.idle());
    }

    private static void fouled(CuckooMayor x, int howMany, int least, int without) {
        due("fouled(0)", howMany, () -> x.fouled(0));
        due("fouled(1)", least, () -> x.fouled(1));
        due("fouled(2)", without, () -> x.fouled(2));
    }

    /** Promise 35: "OILS (0 to 99, another one than it is) by which, were it that now, all SEEN would be so". */
    private static void fouled() {
        fouled(Check.town("clock 0 9 0;"), 99, 1, 1);
        fouled(Check.town("clock 1 9 0;"), 99, 0, 1);
        fouled(Check.town("clock 99 9 0;"), 99, 0, 1);
        CuckooMayor x = Check.town("clock 50 48 0;says (oil=99)*7;");
        Check.range("fouled", 0, 2, NO_SUCH, w -> x.fouled(w));
        x.see(1, 7);
        fouled(x, 1, 99, 0);
        x.oil(49);
        fouled(x, 0, -1, 1);
        CuckooMayor y = Check.town("clock 50 48 0;says (oil=0)*14;");
        y.see(1, 7);
        fouled(y, 1, 0, 0);
        CuckooMayor beyond = Check.town("clock 50 48 0;says (oil<0 or 99<oil)*7;");
        beyond.see(1, 7);
        fouled(beyond, 0, -1, 0);
        CuckooMayor late = Check.town("clock 60 48 0;says (oil=5)*7;");
        late.see(48, 7);
        fouled(late, 1, 52, 0);
        late.see(47, 0);
        fouled(late, 1, 52, 0);
        late.see(47, 7);
        fouled(late, 0, -1, 0);
        CuckooMayor still = Check.town("clock 60 0 0;");
        still.see(48, -1);
        fouled(still, 99, 0, 1);
        still.see(1, 0);
        fouled(still, 0, -1, 0);
        CuckooMayor spider = Check.town("clock 0 9 0;");
        spider.spider(2);
        spider.see(2, -1);
        spider.see(3, 2);
        fouled(spider, 99, 1, 0);
        spider.see(4, 1);
        fouled(spider, 1, 1, 0);
    }

    private static void listen(CuckooMayor x, int hour, int howMany) {
        due("listen(0)", hour, () -> x.listen(0));
        due("listen(1)", howMany, () -> x.listen(1));
    }

    /** Promise 36: "the HOUR (1 to 48 from now) .. in which by these what is SAID would be most unlike (nothing is one); none without any". */
    private static void listen() {
        Check.range("listen", 0, 1, NO_SUCH, w -> new CuckooMayor().listen(w));
        listen(Check.town("clock 99 99 0;says (weight=53)*oil;"), 47, 25);
        listen(Check.town("clock 99 99 0;says (weight=52)*oil;"), 48, 25);
        listen(Check.town("clock 99 99 0;says (weight=51)*oil;"), 1, 1);
        listen(Check.town("clock 9 0 0;"), 1, 1);
        listen(Check.town("clock 9 9 0;says 0;"), 1, 1);
        listen(Check.town("clock 50 9 0;says (oil<0 or 99<oil)*7;"), 1, 1);
        CuckooMayor none = Check.town("clock 9 9 0;says 0;");
        none.see(1, 1);
        listen(none, -1, 0);
        CuckooMayor one = Check.town("clock 50 99 0;says (oil=99)*7;");
        one.see(1, 7);
        listen(one, 1, 1);
        one.oil(49);
        listen(one, -1, 0);
        // the OIL that is there is none of these: 12 is SAID by 1 to 99, and 1 or half of it only in the second HOUR
        listen(Check.town("clock 0 9 0;"), 2, 2);
        listen(Check.town("clock 1 9 0;"), 1, 2);
    }

    /** Promise 36: "of like ones the first": 14 or 7 for OIL 0, in the k-th by OIL k - 1. */
    private static void listenOfLikeOnes() {
        listen(Check.town("clock 50 99 0;says 14;"), 1, 2);
        CuckooMayor x = Check.town("clock 50 99 0;says 14;");
        x.see(1, 14);
        listen(x, 2, 2);
        x.see(4, 14);
        listen(x, 5, 2);
        x.see(47, 14);
        listen(x, 48, 2);
        x.see(48, 14);
        listen(x, 1, 1);
        x.spider(1);
        listen(x, -1, 0);
    }

    /** Promise 38: "NoSuchElementException: also another what. IllegalArgumentException (behind that): both are one, one is PASSED, nothing would be SAID". */
    private static void gameRefused() {
        CuckooMayor x = Check.town("clock 9 2 9;alderman 0 0;votes 1;law 12 0 1;law 20 0 1;law 20 0 1;");
        int[] wrongWhat = {-1, 2, Check.LEAST, Check.MOST};
        Check.range("game what", 0, 1, NO_SUCH, w -> x.game(0, 1, w));
        for (int m = 0; m < 3; m++) { int motion = m; due("both are " + m, ILLEGAL, () -> x.game(motion, motion, 0)); }
        for (int w : wrongWhat) due("both are one, another what", NO_SUCH, () -> x.game(1, 1, w));
        for (int m : new int[] {-1, 3, 10, Check.LEAST, Check.MOST}) {
            due("game(" + m + ", 0, 0)", NO_SUCH, () -> x.game(m, 0, 0));
            due("game(0, " + m + ", 0)", NO_SUCH, () -> x.game(0, m, 0));
            due("game(" + m + ", " + m + ", 0)", NO_SUCH, () -> x.game(m, m, 0));
        }
        x.hours(1);
        due("the first is PASSED", ILLEGAL, () -> x.game(0, 1, 0));
        due("the other one is PASSED", ILLEGAL, () -> x.game(1, 0, 1));
        due("none of two is PASSED", 1, () -> x.game(1, 2, 0));
        for (int w : wrongWhat) due("one is PASSED, another what", NO_SUCH, () -> x.game(0, 1, w));
        due("one is PASSED, no such other one", NO_SUCH, () -> x.game(0, 3, 0));
        x.spider(1);
        due("a SPIDER", ILLEGAL, () -> x.game(1, 2, 0));
        for (int w : wrongWhat) due("a SPIDER, another what", NO_SUCH, () -> x.game(1, 2, w));
        x.undo();
        x.hours(1);
        due("no WEIGHT", ILLEGAL, () -> x.game(1, 2, 0));
        due("no WEIGHT, no such MOTION", NO_SUCH, () -> x.game(1, 3, 0));
        x.wind(1);
        due("wound", 1, () -> x.game(1, 2, 0));
    }

    private static void game(CuckooMayor x, int motion, int other, int many, int first) {
        due("game(" + motion + ", " + other + ", 0)", many, () -> x.game(motion, other, 0));
        due("game(" + motion + ", " + other + ", 1)", first, () -> x.game(motion, other, 1));
    }

    /** "A couple RESTS, if neither gains more by the other choice: how many; the first". */
    private static void gameRests() {
        // TREASURY 10: 0 gains, 1 neither gains nor loses, 2 loses by its JOY, 3 costs too much, 4 a toll that gains, 5 behind one that isn't PASSED, 6 costs all
        CuckooMayor x = Check.town("clock 9 9 10;alderman 0 0;votes 1;law 1 1 1;law 2 1 0;law 3 1 -1;law 4 11 9;toll 5 99 1;law 6 1 1 behind 0;feast 7 10 1;");
        int[] gains = {0, 4, 5, 6};
        int[] loses = {2, 3};
        for (int a : gains) {
            for (int b : gains) if (a != b) game(x, a, b, 1, 0);
            for (int b : loses) {
                game(x, a, b, 1, 1);
                game(x, b, a, 1, 10);
            }
            game(x, a, 1, 2, 0);
            game(x, 1, a, 2, 0);
        }
        for (int b : loses) {
            game(x, b, 1, 2, 10);
            game(x, 1, b, 2, 1);
        }
        game(x, 2, 3, 1, 11);
        CuckooMayor even = Check.town("clock 9 9 10;alderman 0 0;votes 1;law 1 1 0;law 2 1 0;");
        game(even, 0, 1, 4, 0);
        // at the number of the next HOUR, half of 12, whatever the CALLS
        CuckooMayor said = Check.town("clock 0 9 10;alderman 0 0;votes heard=joy;law 1 1 6;law 2 1 9;law 24 1 0;");
        game(said, 0, 1, 1, 1);
        game(said, 1, 0, 1, 10);
        game(said, 1, 2, 1, 11);
        said.oil(1);
        game(said, 0, 1, 1, 11);
        CuckooMayor nobody = Check.town("clock 9 9 10;law 1 1 6;law 2 1 9;");
        game(nobody, 0, 1, 1, 11);
    }

    /** Promise 39: "NoSuchElementException: another what. IllegalArgumentException (behind that): n". */
    private static void years() {
        CuckooMayor x = Check.town("clock 9 9 9;alderman 0 0;votes 1;law 12 0 3;feast 20 0 3;");
        for (int w = 0; w <= 2; w++) {
            int what = w;
            for (int seed : new int[] {0, 1, -1, Check.LEAST, Check.MOST}) Check.range("years of " + w, 0, 96, ILLEGAL, n -> x.years(seed, n, what));
        }
        Check.range("years what", 0, 2, NO_SUCH, w -> x.years(1, 0, w));
        for (int n : WRONG_HOURS) for (int w : new int[] {-1, 3, Check.LEAST, Check.MOST}) due("years(1, " + n + ", " + w + ")", NO_SUCH, () -> x.years(1, n, w));
        for (int w = 0; w <= 2; w++) { int what = w; due("0 HOURS: " + w, 0, () -> x.years(5, 0, what)); }
        x.hours(1);
        due("0 HOURS: what is PASSED", 1, () -> x.years(5, 0, 0));
        due("0 HOURS: JOY", 3, () -> x.years(5, 0, 1));
        due("0 HOURS: never", 0, () -> x.years(5, 0, 2));
    }

    /** "a DRAW of 12: 0 WEIGHT is 24, 1 OIL is 9 more (99 at most), 2 a SPIDER for the DRAW of 5 behind it and 1 HOURS"; "an int that wraps"; "bits 16 to 30". */
    private static void yearsDraws() {
        int[] seeds = {0, 1, 2, 6, 9, 14, 23, 77, 12345, -1, -2, -77, Check.LEAST, Check.LEAST + 1, Check.MOST, Check.MOST - 1, 1 << 30, 1 << 16};
        for (int seed : seeds) {
            for (int[] clock : new int[][] {{0, 0}, {5, 3}, {90, 30}, {95, 99}, {99, 99}}) {
                for (int n : new int[] {1, 2, 12, 48, 95, 96}) {
                    long s = seed & 0xffffffffL;
                    int oil = clock[0];
                    int weight = clock[1];
                    int spider = 0;
                    int silent = 0;
                    boolean high = false;
                    for (int h = 0; h < n; h++) {
                        s = (s * 1103515245L + 12345L) & 0xffffffffL;
                        long draw = (s >> 16) % 32768 % 12;
                        if (draw == 0) weight = 24;
                        if (draw == 1) oil = Math.min(99, oil + 9);
                        if (draw == 2) {
                            s = (s * 1103515245L + 12345L) & 0xffffffffL;
                            spider = (int) ((s >> 16) % 32768 % 5) + 1;
                        }
                        if (weight == 0 || spider > 0) silent++;
                        else {
                            high |= oil == 99;
                            oil = Math.max(0, oil - 1);
                        }
                        weight = Math.max(0, weight - 1);
                        spider = Math.max(0, spider - 1);
                    }
                    CuckooMayor x = Check.town("clock " + clock[0] + " " + clock[1] + " 0;alderman 0 0;votes 1;says (oil=99)*24;law 24 0 -4;feast 23 0 9;");
                    int want = silent;
                    int passed = high ? 1 : 0;
                    due("years(" + seed + ", " + n + ", 2)", want, () -> x.years(seed, n, 2));
                    due("years(" + seed + ", " + n + ", 0)", passed, () -> x.years(seed, n, 0));
                    due("years(" + seed + ", " + n + ", 1)", -4 * passed, () -> x.years(seed, n, 1));
                }
            }
        }
    }
}
