/** The promises one by one, by answers that were worked out by hand from the document. */
public final class PromiseTest {
    private static final long NO_SUCH = Check.NO_SUCH;
    private static final long ILLEGAL = Check.ILLEGAL;
    private static final int LEAST = Integer.MIN_VALUE;
    private static final int MOST = Integer.MAX_VALUE;

    /** Says 12 1 2 3 4, then by half 2 3 3 4 4 5 5 6 0 1 1 2 .. until the weight is down behind 30 HOURS. */
    private static final String TOWN = "clock 5 30 40;alderman 3 0;alderman -2 4;alderman 1 9;"
        + "law 2 10 5;feast 3 20 2 behind 0;toll 4 15 -1;law 9 99 9 behind 1;";

    private static CuckooMayor town() { return Check.town(TOWN); }

    private static void due(String what, long want, Check.Call call) { Check.due(what, want, call); }

    public static void main(String[] args) {
        newObject();
        refusedTexts();
        counts();
        aldermenAndMotions();
        hours();
        voting();
        windOilSpider();
        bribes();
        moves();
        undone();
        sayingAndWhen();
        thenAndFails();
        callsAndWinding();
        moving();
        votesAndBought();
        orders();
        bribery();
        needsAndAllies();
        passingAndOiling();
        hushAndWord();
        heldUpAndIdle();
        seen();
        listening();
        games();
        years();
        images();
        Check.end();
    }

    private static void newObject() {
        CuckooMayor x = new CuckooMayor();
        long[] counts = {0, 0, 0, 20, 24, 0, 100, 0, 0, 0, 0, 0, 0, 0, 0, 0};
        for (int i = 0; i < counts.length; i++) { int what = i; due("new count(" + i + ")", counts[i], () -> x.count(what)); }
        due("new fault()", -1, x::fault);
        due("new undo()", -1, x::undo);
        due("new restore()", 0, () -> x.restore() ? 1 : 0);
        due("new idle()", 0, x::idle);
        due("new saying(1)", 12, () -> x.saying(1));
        due("new motion(0, 0)", NO_SUCH, () -> x.motion(0, 0));
        due("new alderman(0, 0)", NO_SUCH, () -> x.alderman(0, 0));
    }

    private static void refusedTexts() {
        CuckooMayor x = town();
        x.hours(3);
        x.see(1, 1);
        x.wind(100);
        x.image();
        x.spider(5);
        x.image();
        due("a FAULT", 1, () -> Check.tell(x, "x"));
        due("HOUR stays", 3, () -> x.count(2));
        due("ACTS stay", 2, () -> x.count(10));
        due("SEEN stays", 1, () -> x.count(11));
        due("STATUS 0", 1, () -> x.count(13));
        due("the image stays", 1, () -> x.restore() ? 1 : 0);
        due("STATUS 0 as in the image", 0, () -> x.count(13));
        due("the FAULT's place is none of the image's", 0, x::fault);
        due("another FAULT", 1, () -> Check.tell(x, "x"));
        due("a BOROUGH", 0, () -> Check.tell(x, "clock 1 2 3;"));
        long[] counts = {0, 0, 0, 1, 2, 0, 3, 0, 0, 0, 0, 0, 0, 1, 1, 0};
        for (int i = 0; i < counts.length; i++) { int what = i; due("count(" + i + ") anew", counts[i], () -> x.count(what)); }
        due("the image is gone", 0, () -> x.restore() ? 1 : 0);
        due("no ACT to be undone", -1, x::undo);
        due("hour without its rule", 12, () -> x.saying(1));
        Check.tell(x, "says 3;votes 1;alderman 0 0;law 3 0 0;");
        due("by a rule", 3, () -> x.saying(1));
        Check.tell(x, "alderman 0 0;law 3 0 0;");
        due("the rule is gone", 12, () -> x.saying(1));
        due("and the other one", 0, () -> x.votes(0, 3));
    }

    private static void counts() {
        CuckooMayor x = town();
        for (int what : new int[] {-1, 16, LEAST, MOST}) due("count(" + what + ")", NO_SUCH, () -> x.count(what));
        due("BLOCKED", 10, () -> x.count(9));
        x.hours(3);
        due("BLOCKED behind 3 HOURS", 8, () -> x.count(9));
        due("PASSED behind 3 HOURS", 1, () -> x.count(8));
        x.hours(1);
        due("BLOCKED behind 4 HOURS", 0, () -> x.count(9));
        due("PASSED behind 4 HOURS", 3, () -> x.count(8));
        due("TREASURY behind 4 HOURS", 10, () -> x.count(6));
        due("JOY behind 4 HOURS", 9, () -> x.count(7));
        due("OIL behind 4 HOURS", 1, () -> x.count(3));
        due("WEIGHT behind 4 HOURS", 26, () -> x.count(4));
    }

    private static void aldermenAndMotions() {
        CuckooMayor x = town();
        int[] swayed = {2, 4, 6};
        for (int i = 0; i < 3; i++) { int a = i; due("SWAYED by " + i, swayed[i], () -> x.alderman(a, 2)); }
        for (int a : new int[] {-1, 3, LEAST, MOST}) due("alderman(" + a + ", 0)", NO_SUCH, () -> x.alderman(a, 0));
        for (int w : new int[] {-1, 3, LEAST, MOST}) due("alderman(0, " + w + ")", NO_SUCH, () -> x.alderman(0, w));
        for (int m : new int[] {-1, 4, LEAST, MOST}) due("motion(" + m + ", 0)", NO_SUCH, () -> x.motion(m, 0));
        for (int w : new int[] {-1, 7, LEAST, MOST}) due("motion(0, " + w + ")", NO_SUCH, () -> x.motion(0, w));
        due("CHAIN of 3", 2, () -> x.motion(3, 6));
        due("3 follows", 1, () -> x.motion(3, 4));
        x.hours(4);
        due("1 is PASSED", 1, () -> x.motion(1, 5));
        due("2 isn't", 0, () -> x.motion(2, 5));
        due("CHAIN of PASSED ones", 2, () -> x.motion(3, 6));
        due("SWAYED by 0, of what isn't PASSED", 0, () -> x.alderman(0, 2));
        CuckooMayor one = Check.town("alderman 1 0;law 1 1 1;");
        due("one alone sways", 1, () -> one.alderman(0, 2));
        CuckooMayor two = Check.town("alderman 1 0;alderman 1 0;law 1 1 1;alderman 1 0;alderman -9 0;");
        due("three of four for it: one of these sways", 1, () -> two.alderman(0, 2));
        due("the fourth one doesn't", 0, () -> two.alderman(3, 2));
    }

    private static void hours() {
        CuckooMayor x = new CuckooMayor();
        int refused = 0;
        for (int many : new int[] {0, -1, 49, LEAST, MOST}) {
            due("hours(" + many + ")", -1, () -> x.hours(many));
            refused++;
            int all = refused;
            due("STATUS 1", all, () -> x.count(14));
        }
        due("hours(1)", 1, () -> x.hours(1));
        due("hours(48)", 49, () -> x.hours(48));
        due("OIL runs out", 0, () -> x.count(3));
        due("WEIGHT runs down", 0, () -> x.count(4));
        for (int i = 0; i < 207; i++) x.hours(48);
        due("the HOUR", 9985, () -> x.count(2));
        due("hours(15) is above 9999", -1, () -> x.hours(15));
        due("hours(14)", 9999, () -> x.hours(14));
        due("hours(1) is above 9999", -1, () -> x.hours(1));
        due("STATUS 1 in the end", 7, () -> x.count(14));
        x.wind(5);
        due("9999 of the clock is 3", 1, () -> x.saying(1));
        due("ahead of 9999", 2, () -> x.saying(2));
        CuckooMayor day = Check.town("clock 99 99 0;says day*12+hour;");
        due("day 0", 23 - 12, () -> { day.hours(23); return day.saying(1); });
        due("day 1", 24, () -> day.saying(2));
        due("day 1, 1 of the clock", 13, () -> day.saying(3));
        CuckooMayor rule = Check.town("clock 2 9 0;says oil*10+weight;");
        due("oil and weight as they are ahead", 24, () -> rule.saying(1));
        due("one less each", 18, () -> rule.saying(2));
        due("by half without oil", 3, () -> rule.saying(3));
        CuckooMayor high = Check.town("clock 0 9 0;says 31;");
        due("half of 24", 12, () -> high.saying(1));
    }

    /** What is voted on in an HOUR, in which order, and what it does. */
    private static void voting() {
        CuckooMayor none = Check.town("law 12 0 9;");
        none.hours(24);
        due("nobody is for it without ALDERMEN", 0, () -> none.count(8));
        CuckooMayor even = Check.town("alderman 1 0;alderman -9 0;law 12 0 1;");
        even.hours(1);
        due("as many for it as not", 0, () -> even.count(8));
        CuckooMayor row = Check.town("clock 9 9 30;alderman 0 0;law 12 30 1;law 12 1 1;toll 12 5 -1 behind 1;toll 12 5 2 behind 0;law 12 5 1 behind 3;");
        row.hours(1);
        due("one behind the other in one HOUR", 1 + 8 + 16, () -> row.count(8));
        due("TREASURY then", 0, () -> row.count(6));
        due("JOY then", 4, () -> row.count(7));
        CuckooMayor early = Check.town("alderman 0 0;law 1 1 1;law 12 1 1 behind 0;");
        early.hours(1);
        due("what it follows isn't PASSED", 0, () -> early.count(8));
        early.hours(12);
        due("a round later it is", 3, () -> early.count(8));
        CuckooMayor poor = Check.town("clock 9 9 10;alderman 9 0;law 12 11 1;law 1 10 1;toll 2 99 1;");
        poor.hours(1);
        due("COST is more than TREASURY", 0, () -> poor.count(8));
        poor.hours(1);
        due("COST is TREASURY", 2, () -> poor.count(8));
        poor.hours(1);
        due("of a toll TREASURY isn't asked", 6, () -> poor.count(8));
        due("it brings its COST", 99, () -> poor.count(6));
        CuckooMayor joy = Check.town("alderman 9 0;feast 12 0 -4;law 12 0 -3;toll 12 0 2;");
        joy.hours(1);
        due("JOY below 0", -9, () -> joy.count(7));
        CuckooMayor rich = Check.town("clock 9 9 999;alderman 9 0;" + "toll12 99 1;".repeat(10));
        rich.hours(1);
        due("999 and ten tolls of 99", 1989, () -> rich.count(6));
        CuckooMayor deaf = Check.town("alderman 0 3;alderman 0 9;alderman 0 0;votes heard;law 4 0 0;law 9 0 0;");
        due("who hears 4", 5, () -> deaf.votes(0, 4));
        due("who hears 3", 4, () -> deaf.votes(0, 3));
        due("who hears 0", 0, () -> deaf.votes(0, 0));
        due("who hears 10", 7, () -> deaf.votes(0, 10));
        CuckooMayor few = Check.town("alderman 0 0;votes passed<1;law 12 0 0;law 12 0 0;");
        few.hours(1);
        due("how many are PASSED, in the midst of an HOUR", 1, () -> few.count(8));
        CuckooMayor kinds = Check.town("alderman 2 0;votes kind*4+cost+joy+lean=14;law 1 9 3;feast 1 9 -1;toll 1 1 3;");
        due("law", 1, () -> kinds.votes(0, 1));
        due("feast", 1, () -> kinds.votes(1, 1));
        due("toll", 1, () -> kinds.votes(2, 1));
        CuckooMayor below = Check.town("alderman 0 0;votes 0-heard;law 1 0 0;");
        due("less than 0 is not for it", 0, () -> below.votes(0, 5));
    }

    private static void windOilSpider() {
        CuckooMayor x = new CuckooMayor();
        due("wind(1)", 25, () -> x.wind(1));
        due("wind(99)", 99, () -> x.wind(99));
        due("wind(1) at the most", 99, () -> x.wind(1));
        for (int more : new int[] {0, 100, LEAST, MOST}) due("wind(" + more + ")", -1, () -> x.wind(more));
        due("oil(1)", 21, () -> x.oil(1));
        due("oil(99)", 99, () -> x.oil(99));
        for (int more : new int[] {0, 100, LEAST, MOST}) due("oil(" + more + ")", -1, () -> x.oil(more));
        due("spider(24)", 0, () -> x.spider(24));
        due("spider(1)", 24, () -> x.spider(1));
        due("spider(3), one being there", 1, () -> x.spider(3));
        for (int many : new int[] {0, 25, LEAST, MOST}) due("spider(" + many + ")", -1, () -> x.spider(many));
        due("STATUS 1 of these", 12, () -> x.count(14));
        due("ACTS of these", 8, () -> x.count(10));
        x.hours(2);
        due("a SPIDER for one more", 1, () -> x.count(5));
        due("OIL is not used up", 99, () -> x.count(3));
        due("WEIGHT is 2 less", 97, () -> x.count(4));
        due("nothing is SAID", -1, () -> x.saying(1));
        due("3 is SAID then", 3, () -> x.saying(2));
        x.hours(2);
        due("no SPIDER", 0, () -> x.count(5));
        due("OIL is used up again", 98, () -> x.count(3));
    }

    private static void bribes() {
        CuckooMayor rich = Check.town("clock 1 1 999;alderman -9 0;");
        due("bribe(0, 10) of 999", -10, () -> rich.bribe(0, 10));
        due("bribe(0, 9) of 999", 0, () -> rich.bribe(0, 9));
        CuckooMayor x = Check.town("clock 1 1 20;alderman 3 0;alderman -9 0;");
        due("bribe(0, 4)", 7, () -> x.bribe(0, 4));
        due("TREASURY 4 less", 16, () -> x.count(6));
        due("bribe(0, 9)", 9, () -> x.bribe(0, 9));
        due("TREASURY 9 less", 7, () -> x.count(6));
        due("bribe(1, 8): more than TREASURY", -10, () -> x.bribe(1, 8));
        due("bribe(1, 7)", -2, () -> x.bribe(1, 7));
        due("bribe(1, 1): none is left", -10, () -> x.bribe(1, 1));
        for (int much : new int[] {0, 10, -1, LEAST, MOST}) due("bribe(0, " + much + ")", -10, () -> x.bribe(0, much));
        for (int a : new int[] {-1, 2, LEAST, MOST}) due("bribe(" + a + ", 0)", NO_SUCH, () -> x.bribe(a, 0));
        due("STATUS 1", 7, () -> x.count(14));
        due("ACTS", 3, () -> x.count(10));
        due("DEAF", 0, () -> x.alderman(1, 1));
        due("LEAN", -2, () -> x.alderman(1, 0));
    }

    private static void moves() {
        CuckooMayor x = town();
        due("move(3, 4)", 9, () -> x.move(3, 4));
        due("move(3, 0)", 4, () -> x.move(3, 0));
        due("move(3, 24)", 0, () -> x.move(3, 24));
        due("CALL then", 24, () -> x.motion(3, 1));
        for (int call : new int[] {-1, 25, LEAST, MOST}) due("move(3, " + call + ")", -1, () -> x.move(3, call));
        for (int m : new int[] {-1, 4, LEAST, MOST}) due("move(" + m + ", 99)", NO_SUCH, () -> x.move(m, 99));
        x.hours(3);
        due("move(0, 4): PASSED", -1, () -> x.move(0, 4));
        due("STATUS 1", 5, () -> x.count(14));
        due("ACTS", 4, () -> x.count(10));
        due("move(1, 12)", 3, () -> x.move(1, 12));
        due("it is PASSED in the HOUR of 3 no more", -1, () -> x.when(1));
    }

    private static void undone() {
        CuckooMayor joyful = town();
        joyful.hours(4);
        joyful.spider(7);
        joyful.move(2, 12);
        joyful.undo();
        due("JOY as it was", 9, () -> joyful.count(7));
        due("PASSED as it was", 3, () -> joyful.count(8));
        due("a SPIDER as it was", 7, () -> joyful.count(5));
        CuckooMayor x = town();
        x.hours(3);
        x.wind(9);
        x.oil(3);
        x.spider(4);
        x.bribe(1, 2);
        x.move(2, 9);
        x.hours(5);
        due("undo hours(5)", 6, x::undo);
        due("HOUR", 3, () -> x.count(2));
        due("undo move", 5, x::undo);
        due("CALL", 4, () -> x.motion(2, 1));
        due("undo bribe", 4, x::undo);
        due("LEAN", -2, () -> x.alderman(1, 0));
        due("TREASURY", 30, () -> x.count(6));
        due("undo spider", 3, x::undo);
        due("SPIDER", 0, () -> x.count(5));
        due("undo oil", 2, x::undo);
        due("OIL", 2, () -> x.count(3));
        due("undo wind", 1, x::undo);
        due("WEIGHT", 27, () -> x.count(4));
        due("undo hours(3)", 0, x::undo);
        due("PASSED", 0, () -> x.count(8));
        due("JOY", 0, () -> x.count(7));
        due("TREASURY at first", 40, () -> x.count(6));
        due("undo nothing", -1, x::undo);
        due("that is no refused ACT", 0, () -> x.count(14));
        for (int i = 0; i < 45; i++) x.hours(1);
        due("40 ACTS are kept", 40, () -> x.count(10));
        for (int i = 39; i >= 0; i--) { int left = i; due("undo, left " + i, left, x::undo); }
        due("the latest ones", 5, () -> x.count(2));
        due("no more", -1, x::undo);
    }

    private static void sayingAndWhen() {
        CuckooMayor x = town();
        int[] said = {12, 1, 2, 3, 4, 2, 3, 3, 4, 4, 5, 5, 6, 0, 1, 1, 2};
        for (int i = 0; i < said.length; i++) { int k = i + 1; due("saying(" + k + ")", said[i], () -> x.saying(k)); }
        due("saying(30)", 2, () -> x.saying(30));
        due("saying(31)", -1, () -> x.saying(31));
        due("saying(96)", -1, () -> x.saying(96));
        for (int k : new int[] {0, 97, -1, LEAST, MOST}) due("saying(" + k + ")", ILLEGAL, () -> x.saying(k));
        CuckooMayor leaning = Check.town("alderman 9 0;alderman -9 0;alderman 1 0;law 2 1 -3;law 1 1 0;");
        due("LEAN counts in what comes", -1, () -> leaning.when(0));
        due("and lets the other one be PASSED", 2, () -> leaning.when(1));
        int[] when = {3, 4, -1, -1};
        for (int i = 0; i < 4; i++) { int m = i; due("when(" + m + ")", when[i], () -> x.when(m)); }
        for (int m : new int[] {-1, 4, LEAST, MOST}) due("when(" + m + ")", NO_SUCH, () -> x.when(m));
        x.hours(3);
        due("when(0): it is", 0, () -> x.when(0));
        due("when(1) then", 1, () -> x.when(1));
        CuckooMayor far = Check.town("clock 99 99 0;alderman 0 0;says (day=3)*hour;law 11 0 1;feast 12 0 1;");
        due("in the 84th", 84, () -> far.when(0));
        far.hours(48);
        far.hours(10);
        due("26 HOURS on", 26, () -> far.when(0));
        CuckooMayor edge = Check.town("clock 99 99 0;alderman 0 0;says (day=4)*hour;law 12 0 1;");
        due("in the 97th", -1, () -> edge.when(0));
        edge.hours(1);
        due("in the 96th", 96, () -> edge.when(0));
    }

    private static void thenAndFails() {
        CuckooMayor x = town();
        int[][] then = {{0, 40, 0}, {2, 40, 0}, {3, 30, 5}, {4, 10, 9}, {96, 10, 9}};
        for (int[] t : then) {
            due("then(" + t[0] + ", 0)", t[1], () -> x.then(t[0], 0));
            due("then(" + t[0] + ", 1)", t[2], () -> x.then(t[0], 1));
        }
        for (int h : new int[] {-1, 97, LEAST, MOST}) {
            due("then(" + h + ", 0)", ILLEGAL, () -> x.then(h, 0));
            due("then(" + h + ", 2)", NO_SUCH, () -> x.then(h, 2));
        }
        for (int w : new int[] {-1, 2, LEAST, MOST}) {
            due("then(0, " + w + ")", NO_SUCH, () -> x.then(0, w));
            due("fails(" + w + ")", NO_SUCH, () -> x.fails(w));
        }
        due("nothing has changed", 0, () -> x.count(2));
        due("SILENT", 31, () -> x.fails(0));
        due("HOARSE", 6, () -> x.fails(1));
        x.spider(2);
        due("SILENT by a SPIDER", 1, () -> x.fails(0));
        due("HOARSE behind a SPIDER", 8, () -> x.fails(1));
        x.wind(99);
        x.hours(3);
        due("96 HOURS of 96", -1, () -> x.fails(0));
        x.hours(1);
        due("95 HOURS of 96", 96, () -> x.fails(0));
        CuckooMayor still = Check.town("clock 3 0 0;");
        due("SILENT at once", 1, () -> still.fails(0));
        due("HOARSE never", -1, () -> still.fails(1));
        CuckooMayor worn = Check.town("clock 95 99 0;");
        due("HOARSE in the 96th", 96, () -> worn.fails(1));
        worn.oil(1);
        due("HOARSE in the 97th", -1, () -> worn.fails(1));
        CuckooMayor half = Check.town("clock 0 9 0;says 0;");
        due("half of 0 is half", 1, () -> half.fails(1));
    }

    private static void callsAndWinding() {
        CuckooMayor x = town();
        due("calls(2, 16)", 2, () -> x.calls(2, 16));
        due("calls(2, 17)", 3, () -> x.calls(2, 17));
        due("calls(2, 0)", 0, () -> x.calls(2, 0));
        due("calls(24, 96)", 0, () -> x.calls(24, 96));
        due("calls(12, 96)", 1, () -> x.calls(12, 96));
        due("calls(0, 96)", 2, () -> x.calls(0, 96));
        for (int bad : new int[] {-1, 25, LEAST, MOST}) due("calls(" + bad + ", 5)", ILLEGAL, () -> x.calls(bad, 5));
        for (int bad : new int[] {-1, 97, LEAST, MOST}) due("calls(5, " + bad + ")", ILLEGAL, () -> x.calls(5, bad));
        due("toWind(1)", 0, () -> x.toWind(1));
        due("toWind(30)", 0, () -> x.toWind(30));
        due("toWind(31)", 1, () -> x.toWind(31));
        due("toWind(96)", 66, () -> x.toWind(96));
        x.spider(9);
        due("toWind(31) whatever a SPIDER does", 1, () -> x.toWind(31));
        for (int bad : new int[] {0, 97, LEAST, MOST}) due("toWind(" + bad + ")", ILLEGAL, () -> x.toWind(bad));
    }

    private static void moving() {
        CuckooMayor x = town();
        int[][] best = {{12, 1}, {2, 3}, {-1, -1}, {-1, -1}};
        for (int i = 0; i < 4; i++) {
            int m = i;
            due("moving(" + m + ", 0)", best[m][0], () -> x.moving(m, 0));
            due("moving(" + m + ", 1)", best[m][1], () -> x.moving(m, 1));
            for (int w : new int[] {-1, 2, LEAST, MOST}) due("moving(" + m + ", " + w + ")", NO_SUCH, () -> x.moving(m, w));
        }
        for (int m : new int[] {-1, 4, LEAST, MOST}) due("moving(" + m + ", 0)", NO_SUCH, () -> x.moving(m, 0));
        due("the CALL stays", 2, () -> x.motion(0, 1));
        x.hours(3);
        due("of a PASSED one", -1, () -> x.moving(0, 0));
        due("of a PASSED one the HOUR", -1, () -> x.moving(0, 1));
        due("of a PASSED one another what", NO_SUCH, () -> x.moving(0, 2));
        CuckooMayor lean = Check.town("alderman 9 0;law 24 0 -1;says 24;");
        due("at 24", 24, () -> lean.moving(0, 0));
        due("at 24 at once", 1, () -> lean.moving(0, 1));
        CuckooMayor low = Check.town("alderman 9 0;law 24 0 -1;says 0;");
        due("at 0", 0, () -> low.moving(0, 0));
        CuckooMayor edge = Check.town("clock 99 99 0;alderman 0 0;says (day=2)*hour;votes heard;law 12 0 1;");
        due("in the 49th", -1, () -> edge.moving(0, 1));
        edge.hours(1);
        due("in the 48th", 48, () -> edge.moving(0, 1));
        due("at 12", 12, () -> edge.moving(0, 0));
    }

    private static void votesAndBought() {
        CuckooMayor x = town();
        int[] votes = {7, 5, 1, 7};
        int[] bought = {0, 0, 1, 0};
        for (int i = 0; i < 4; i++) {
            int m = i;
            due("votes(" + m + ", 0)", votes[m], () -> x.votes(m, 0));
            due("votes(" + m + ", 24)", votes[m], () -> x.votes(m, 24));
            due("bought(" + m + ", 24)", bought[m], () -> x.bought(m, 24));
            due("bought(" + m + ", 0)", bought[m], () -> x.bought(m, 0));
        }
        for (int bad : new int[] {-1, 25, LEAST, MOST}) {
            due("votes(0, " + bad + ")", ILLEGAL, () -> x.votes(0, bad));
            due("bought(0, " + bad + ")", ILLEGAL, () -> x.bought(0, bad));
            due("bribery(0, " + bad + ")", ILLEGAL, () -> x.bribery(0, bad));
            due("votes(4, " + bad + ")", NO_SUCH, () -> x.votes(4, bad));
            due("bought(-1, " + bad + ")", NO_SUCH, () -> x.bought(-1, bad));
            due("bribery(4, " + bad + ")", NO_SUCH, () -> x.bribery(4, bad));
        }
        CuckooMayor none = Check.town("law 1 1 1;");
        due("bought without ALDERMEN", 0, () -> none.bought(0, 1));
        due("votes without ALDERMEN", 0, () -> none.votes(0, 1));
        CuckooMayor four = Check.town("alderman -9 0;alderman -9 0;alderman -9 0;alderman -9 0;law 1 1 1;");
        due("three of four", 3, () -> four.bought(0, 1));
        CuckooMayor deaf = Check.town("alderman 0 0;alderman 0 5;alderman 0 9;votes heard-2;law 1 1 1;");
        due("bought at 2", 2, () -> deaf.bought(0, 2));
        due("bought at 3", 1, () -> deaf.bought(0, 3));
        due("bought at 8", 0, () -> deaf.bought(0, 8));
    }

    private static void orders() {
        CuckooMayor x = town();
        due("JOY of the ORDER", 9, () -> x.order(0));
        due("the ORDER", 3, () -> x.order(1));
        for (int w : new int[] {-1, 2, LEAST, MOST}) due("order(" + w + ")", NO_SUCH, () -> x.order(w));
        x.hours(3);
        due("JOY of the ORDER, 0 being PASSED", 4, () -> x.order(0));
        due("the ORDER, 0 being PASSED", 2, () -> x.order(1));
        CuckooMayor empty = Check.town("law 1 0 -1;feast 1 0 0;");
        due("the empty one", 0, () -> empty.order(1));
        due("its JOY", 0, () -> empty.order(0));
        CuckooMayor toll = Check.town("clock 0 0 10;toll 1 20 -1;law 1 30 9;");
        due("a toll pays for it", 3, () -> toll.order(1));
        due("and takes its JOY", 8, () -> toll.order(0));
        CuckooMayor like = Check.town("clock 0 0 10;law 1 5 2;law 1 5 2;feast 1 10 2;");
        due("of like ones with fewest", 4, () -> like.order(1));
        CuckooMayor least = Check.town("clock 0 0 5;law 1 5 2;law 1 5 2;law 1 5 2;");
        due("then the least", 1, () -> least.order(1));
        CuckooMayor one = Check.town("clock 0 0 5;law 1 5 2;law 1 5 3;");
        due("one more JOY", 2, () -> one.order(1));
        CuckooMayor chain = Check.town("law 1 0 -3;law 1 0 1 behind 0;law 1 0 9 behind 1;");
        due("with each one that it follows", 7, () -> chain.order(1));
        due("all their JOY", 7, () -> chain.order(0));
    }

    private static void bribery() {
        CuckooMayor x = town();
        int[] least = {0, 0, 1, 0};
        for (int i = 0; i < 4; i++) { int m = i; due("bribery(" + m + ", 7)", least[m], () -> x.bribery(m, 7)); }
        CuckooMayor none = Check.town("law 1 1 1;");
        due("without ALDERMEN", -1, () -> none.bribery(0, 1));
        CuckooMayor hard = Check.town("alderman 9 0;alderman -9 0;votes lean-9;law 1 1 1;");
        due("never", -1, () -> hard.bribery(0, 1));
        CuckooMayor odd = Check.town("alderman 9 0;alderman -1 0;alderman 2 0;alderman 5 0;votes lean=3 or lean=9 and heard;law 1 1 1;");
        due("1, 4 and 4", 1 + 4, () -> odd.bribery(0, 1));
        due("hearing nothing: 1, 4, never", -1, () -> odd.bribery(0, 0));
        CuckooMayor poor = Check.town("clock 0 0 0;alderman -9 0;law 1 1 1;");
        due("whatever TREASURY is", 9, () -> poor.bribery(0, 1));
    }

    private static void needsAndAllies() {
        CuckooMayor x = town();
        int[] needs = {0, 1, 0, 3};
        for (int i = 0; i < 4; i++) { int m = i; due("needs(" + m + ")", needs[m], () -> x.needs(m)); }
        for (int m : new int[] {-1, 4, LEAST, MOST}) due("needs(" + m + ")", NO_SUCH, () -> x.needs(m));
        int[][] allies = {{4, 2, 3}, {2, 4, 3}, {3, 3, 4}};
        for (int i = 0; i < 3; i++) for (int j = 0; j < 3; j++) { int a = i, b = j; due("allies(" + a + ", " + b + ")", allies[a][b], () -> x.allies(a, b)); }
        for (int a : new int[] {-1, 3, LEAST, MOST}) {
            due("allies(" + a + ", 0)", NO_SUCH, () -> x.allies(a, 0));
            due("allies(0, " + a + ")", NO_SUCH, () -> x.allies(0, a));
        }
        x.hours(3);
        due("needs(3), 0 being PASSED", 2, () -> x.needs(3));
        due("allies(0, 1), 0 being PASSED", 1, () -> x.allies(0, 1));
    }

    private static void passingAndOiling() {
        CuckooMayor x = town();
        int[][] passing = {{0, 0}, {2, 0}, {3, 1}, {4, 3}, {96, 3}};
        for (int[] p : passing) due("passing(" + p[0] + ")", p[1], () -> x.passing(p[0]));
        for (int bad : new int[] {-1, 97, LEAST, MOST}) due("passing(" + bad + ")", ILLEGAL, () -> x.passing(bad));
        int[][] oil = {{1, 0}, {5, 0}, {6, 1}, {30, 25}, {31, 25}, {96, 25}};
        for (int[] o : oil) due("toOil(" + o[0] + ")", o[1], () -> x.toOil(o[0]));
        for (int bad : new int[] {0, 97, LEAST, MOST}) due("toOil(" + bad + ")", ILLEGAL, () -> x.toOil(bad));
        x.spider(4);
        due("toOil(9) with 4 HOURS of a SPIDER", 0, () -> x.toOil(9));
        due("toOil(10) with 4 HOURS of a SPIDER", 1, () -> x.toOil(10));
        x.undo();
        x.hours(4);
        due("what is PASSED stays so", 3, () -> x.passing(0));
        CuckooMayor dry = Check.town("clock 0 99 0;");
        due("all of it", 96, () -> dry.toOil(96));
    }

    private static void hushAndWord() {
        CuckooMayor x = town();
        due("hush(30, 0)", 0, () -> x.hush(30, 0));
        due("hush(30, 1)", -1, () -> x.hush(30, 1));
        due("hush(0, 0)", 0, () -> x.hush(0, 0));
        due("hush(0, 1)", -1, () -> x.hush(0, 1));
        due("hush(40, 0)", 10, () -> x.hush(40, 0));
        due("hush(40, 1)", 31, () -> x.hush(40, 1));
        due("hush(96, 0)", 66, () -> x.hush(96, 0));
        for (int w : new int[] {-1, 2, LEAST, MOST}) due("hush(97, " + w + ")", NO_SUCH, () -> x.hush(97, w));
        for (int bad : new int[] {-1, 97, LEAST, MOST}) due("hush(" + bad + ", 0)", ILLEGAL, () -> x.hush(bad, 0));
        x.spider(4);
        due("two like ones", 4, () -> x.hush(34, 0));
        due("the first", 1, () -> x.hush(34, 1));
        due("the longer one", 31, () -> x.hush(35, 1));
        due("of a SPIDER's alone nothing is SAID", -1, () -> x.word(4));
        x.undo();
        int[][] word = {{0, -1}, {1, 12}, {2, 1}, {5, 1}, {6, 2}, {7, 2}, {8, 3}, {9, 3}, {10, 3}};
        for (int[] w : word) due("word(" + w[0] + ")", w[1], () -> x.word(w[0]));
        CuckooMayor nought = Check.town("says 24*(11<hour);");
        due("word(1) at 12", 24, () -> nought.word(1));
        due("word(2): 24 and 0", 0, () -> nought.word(2));
        for (int bad : new int[] {-1, 97, LEAST, MOST}) due("word(" + bad + ")", ILLEGAL, () -> x.word(bad));
    }

    private static void heldUpAndIdle() {
        CuckooMayor x = Check.town("clock 50 50 30;alderman 1 0;law 1 20 1;law 2 20 1;feast 3 5 1;toll 20 99 1;");
        int[] held = {2, 0, 0, 0};
        for (int i = 0; i < 4; i++) { int m = i; due("heldUp(" + m + ")", held[m], () -> x.heldUp(m)); }
        for (int m : new int[] {-1, 4, LEAST, MOST}) due("heldUp(" + m + ")", NO_SUCH, () -> x.heldUp(m));
        due("idle()", 8, x::idle);
        x.hours(2);
        due("heldUp(0): it is PASSED", 0, () -> x.heldUp(0));
        x.move(3, 13);
        due("idle() at 13", 8, x::idle);
        x.move(3, 12);
        due("idle() at 12", 0, x::idle);
        CuckooMayor still = Check.town("clock 9 0 9;alderman 1 0;law 1 1 1;law 12 1 1;");
        due("idle() without WEIGHT", 3, still::idle);
        due("idle() of the town", 8, () -> town().idle());
        due("CALLS that are SAID once", 0, () -> Check.town("clock 2 2 0;alderman 1 0;law 12 0 1;law 1 0 1;").idle());
        CuckooMayor later = Check.town("clock 99 99 0;alderman 1 0;says (day=3)*hour;law 12 0 1;law 0 9 1;law 13 0 1;");
        due("idle() looks 96 HOURS ahead", 4, later::idle);
    }

    private static void seen() {
        CuckooMayor x = town();
        due("nothing SEEN: all but one", 99, () -> x.fouled(0));
        due("the least", 0, () -> x.fouled(1));
        due("without", 1, () -> x.fouled(2));
        due("see(6, 5)", 1, () -> x.see(6, 5));
        due("6 to 99", 94, () -> x.fouled(0));
        due("the least is 6", 6, () -> x.fouled(1));
        due("not without", 0, () -> x.fouled(2));
        due("see(7, 3)", 2, () -> x.see(7, 3));
        due("6 alone", 1, () -> x.fouled(0));
        due("it is 6", 6, () -> x.fouled(1));
        due("see(48, -1)", 3, () -> x.see(48, -1));
        due("still 6", 6, () -> x.fouled(1));
        due("see(1, 0)", 4, () -> x.see(1, 0));
        due("none", 0, () -> x.fouled(0));
        due("no least one", -1, () -> x.fouled(1));
        int[][] refused = {{0, 1}, {49, 1}, {-1, 1}, {LEAST, 1}, {MOST, 1}, {1, -2}, {1, 25}, {1, LEAST}, {1, MOST}};
        for (int[] r : refused) due("see(" + r[0] + ", " + r[1] + ")", -1, () -> x.see(r[0], r[1]));
        due("STATUS 2", 9, () -> x.count(15));
        for (int i = 5; i <= 8; i++) { int many = i; due("see(1, 24)", many, () -> x.see(1, 24)); }
        due("there are 8", -1, () -> x.see(1, 24));
        due("SEEN", 8, () -> x.count(11));
        due("STATUS 2 of 10", 10, () -> x.count(15));
        x.forget();
        due("all is forgotten", 0, () -> x.count(11));
        due("all but one again", 99, () -> x.fouled(0));
        for (int w : new int[] {-1, 3, LEAST, MOST}) due("fouled(" + w + ")", NO_SUCH, () -> x.fouled(w));
        x.see(1, 12);
        due("what is so without is so with all but 0", 98, () -> x.fouled(0));
        due("without", 1, () -> x.fouled(2));
        x.hours(1);
        due("HOURS leave SEEN alone", 1, () -> x.count(11));
        due("the first from now is 1, not 12", 0, () -> x.fouled(2));
        x.undo();
        due("an ACT undone does, too", 1, () -> x.fouled(2));
    }

    private static void listening() {
        CuckooMayor x = town();
        due("12 or 6 at once", 1, () -> x.listen(0));
        due("two unlike ones", 2, () -> x.listen(1));
        x.see(1, 12);
        due("1 or 0 in the second", 2, () -> x.listen(0));
        due("still two", 2, () -> x.listen(1));
        x.see(6, 5);
        x.see(7, 3);
        due("one OIL alone: the first HOUR", 1, () -> x.listen(0));
        due("one unlike one", 1, () -> x.listen(1));
        x.see(1, 6);
        due("none: no HOUR", -1, () -> x.listen(0));
        due("none: 0", 0, () -> x.listen(1));
        for (int w : new int[] {-1, 2, LEAST, MOST}) due("listen(" + w + ")", NO_SUCH, () -> x.listen(w));
        CuckooMayor oil = Check.town("clock 5 48 0;says oil;");
        due("by OIL itself: 5 is missing in the first HOUR, 4 in the second .. 0 is not in the sixth", 6, () -> oil.listen(0));
        due("0 to 24", 25, () -> oil.listen(1));
        oil.see(6, 0);
        due("0 to 4 alone", 1, () -> oil.listen(0));
        due("five unlike ones", 5, () -> oil.listen(1));
        CuckooMayor still = Check.town("clock 5 0 0;");
        due("nothing is one", 1, () -> still.listen(1));
        CuckooMayor late = Check.town("clock 99 48 0;says (weight=1)*oil;");
        due("in the 48th alone", 48, () -> late.listen(0));
        due("0 (up to 47 HOURS of it) to 24", 25, () -> late.listen(1));
    }

    private static void games() {
        CuckooMayor x = town();
        int[][] first = {{0, 1, 0}, {0, 2, 1}, {2, 3, 11}, {2, 0, 10}, {1, 3, 1}};
        for (int[] g : first) {
            due("game(" + g[0] + ", " + g[1] + ", 0)", 1, () -> x.game(g[0], g[1], 0));
            due("game(" + g[0] + ", " + g[1] + ", 1)", g[2], () -> x.game(g[0], g[1], 1));
        }
        for (int w : new int[] {-1, 2, LEAST, MOST}) {
            due("game(0, 1, " + w + ")", NO_SUCH, () -> x.game(0, 1, w));
            due("game(0, 0, " + w + ")", NO_SUCH, () -> x.game(0, 0, w));
        }
        for (int m : new int[] {-1, 4, LEAST, MOST}) {
            due("game(" + m + ", 0, 0)", NO_SUCH, () -> x.game(m, 0, 0));
            due("game(0, " + m + ", 0)", NO_SUCH, () -> x.game(0, m, 0));
        }
        due("one alone", ILLEGAL, () -> x.game(1, 1, 0));
        x.spider(1);
        due("nothing would be SAID", ILLEGAL, () -> x.game(0, 1, 0));
        due("nothing would be SAID, another what", NO_SUCH, () -> x.game(0, 1, 2));
        x.undo();
        x.hours(3);
        due("one is PASSED", ILLEGAL, () -> x.game(0, 1, 0));
        due("the other one is PASSED", ILLEGAL, () -> x.game(1, 0, 0));
        CuckooMayor nought = Check.town("alderman 1 0;law 1 1 0;feast 1 1 0;law 1 1 -1;alderman 5 0;alderman 5 0;");
        due("all four rest", 4, () -> nought.game(0, 1, 0));
        due("the first of four", 0, () -> nought.game(0, 1, 1));
        due("who would lose withdraws, the other may do either", 2, () -> nought.game(0, 2, 0));
        due("the first of two", 1, () -> nought.game(0, 2, 1));
        CuckooMayor said = Check.town("clock 0 9 9;alderman 0 0;votes heard=6;law 0 9 1;law 0 10 1;toll 0 99 1;");
        due("by what is SAID, half of 12; TREASURY must be there", 1, () -> said.game(0, 1, 1));
        due("of a toll it needn't", 0, () -> said.game(0, 2, 1));
    }

    /** The DRAWS of a seed: 9 gives 0 7 7 7 .., 5 none of 0 to 2 in eight, 1 a 2 with a 3, 6 a 2 with 0, a 2 with 1, 10, 1 .., 23 a 1. */
    private static void years() {
        CuckooMayor still = Check.town("clock 5 0 50;alderman 1 0;law 12 1 4;feast 1 1 3;");
        due("no WEIGHT", 8, () -> still.years(5, 8, 2));
        due("winding day", 0, () -> still.years(9, 8, 2));
        due("PASSED", 2, () -> still.years(9, 8, 0));
        due("JOY", 10, () -> still.years(9, 8, 1));
        due("none PASSED", 0, () -> still.years(5, 8, 0));
        due("0 HOURS", 0, () -> still.years(9, 0, 2));
        due("all is as it was", 0, () -> still.count(4));
        CuckooMayor full = Check.town("clock 0 99 50;alderman 1 0;law 12 1 4;");
        due("a SPIDER of 4", 4, () -> full.years(1, 6, 2));
        due("a SPIDER of 1, then of 2", 3, () -> full.years(6, 8, 2));
        due("without OIL 6 is SAID", 0, () -> full.years(5, 1, 0));
        due("with 9 more 12 is", 1, () -> full.years(23, 1, 0));
        CuckooMayor oiled = Check.town("clock 0 99 50;says oil;alderman 1 0;law 9 1 4;law 8 1 4;");
        due("9 more, then one less", 2, () -> oiled.years(23, 2, 0));
        CuckooMayor dripping = Check.town("clock 95 99 50;says oil-80;alderman 1 0;law 19 1 4;law 18 1 4;");
        due("99 at the most", 2, () -> dripping.years(23, 2, 0));
        CuckooMayor wound = Check.town("clock 9 99 50;says weight;alderman 1 0;law 24 1 4;law 23 1 4;law 22 1 4;");
        due("WEIGHT is 24 anew in four HOURS, then 23, 22", 3, () -> wound.years(14, 6, 0));
        due("in four alone", 1, () -> wound.years(14, 4, 0));
        CuckooMayor x = town();
        x.hours(4);
        due("0 HOURS: what is PASSED", 2, () -> x.years(7, 0, 0));
        due("0 HOURS: JOY", 9, () -> x.years(7, 0, 1));
        for (int w : new int[] {-1, 3, LEAST, MOST}) due("years(1, 97, " + w + ")", NO_SUCH, () -> x.years(1, 97, w));
        for (int n : new int[] {-1, 97, LEAST, MOST}) due("years(1, " + n + ", 0)", ILLEGAL, () -> x.years(1, n, 0));
    }

    private static void images() {
        CuckooMayor x = town();
        x.hours(1);
        x.bribe(0, 1);
        x.wind(100);
        x.see(1, 1);
        x.see(0, 0);
        x.image();
        x.hours(5);
        x.move(3, 1);
        x.see(2, 2);
        x.see(0, 0);
        x.wind(0);
        x.undo();
        Check.tell(x, "x");
        due("restore()", 1, () -> x.restore() ? 1 : 0);
        long[] counts = {3, 4, 1, 4, 29, 0, 39, 0, 0, 10, 2, 1, 0, 0, 1, 1};
        for (int i = 0; i < counts.length; i++) { int what = i; due("count(" + i + ") restored", counts[i], () -> x.count(what)); }
        due("LEAN restored", 4, () -> x.alderman(0, 0));
        due("CALL restored", 9, () -> x.motion(3, 1));
        due("SEEN restored: 1 in the first from now", 1, () -> x.fouled(2));
        due("an ACT of the image undone", 1, x::undo);
        due("LEAN ahead of it", 3, () -> x.alderman(0, 0));
        due("the other one undone", 0, x::undo);
        x.forget();
        due("restore() once more", 1, () -> x.restore() ? 1 : 0);
        due("ACTS once more", 2, () -> x.count(10));
        due("SEEN once more", 1, () -> x.count(11));
        x.undo();
        x.undo();
        x.image();
        x.hours(2);
        due("another image", 1, () -> x.restore() ? 1 : 0);
        due("in place of the first", 0, () -> x.count(2));
        x.see(3, 3);
        x.bribe(0, 1);
        x.hours(1);
        x.image();
        x.undo();
        x.undo();
        x.forget();
        x.see(4, 4);
        x.wind(1);
        x.oil(1);
        x.bribe(0, 4);
        due("restore() behind other ACTS", 1, () -> x.restore() ? 1 : 0);
        due("LEAN of the image", 4, () -> x.alderman(0, 0));
        due("3 in the third is SEEN, not 4 in the fourth", 1, () -> x.fouled(2));
        x.undo();
        due("ahead of the image's last ACT", 0, () -> x.count(2));
        due("LEAN there", 4, () -> x.alderman(0, 0));
        x.undo();
        due("LEAN ahead of the bribe", 3, () -> x.alderman(0, 0));
        x.restore();
        Check.feed(x, "clock 9 9 9;");
        due("the tape is none of the image's", 1, () -> x.restore() ? 1 : 0);
        due("its bytes", 20, () -> x.count(12));
        due("a BOROUGH", 0, () -> x.borough(12));
        due("no image", 0, () -> x.restore() ? 1 : 0);
    }
}
