/** Each sentence about an ACT, what is SEEN, STATUS, and the image that names an edge (promises 5 to 14, 34, 37, 40, 41). */
public final class EdgeOfActTest {
    private static final long NO_SUCH = Check.NO_SUCH;
    private static final int LEAST = Check.LEAST;
    private static final int MOST = Check.MOST;
    private static final String TOWN = "clock 9 30 50;alderman -9 1;alderman 2 2;alderman 9 3;law 1 1 4;feast 9 2 2 behind 0;toll 24 9 -9 behind 1;";

    public static void main(String[] args) {
        counts();
        ofAnAlderman();
        ofAMotion();
        hours();
        hoursUpTo9999();
        wind();
        oil();
        spider();
        bribe();
        bribeOutOfTreasury();
        move();
        fortyActs();
        lastOneFirst();
        nothingToUndo();
        see();
        eightSeen();
        forget();
        image();
        imageKeeps();
        noImage();
        status();
        Check.end();
    }

    private static void due(String what, long want, Check.Call call) { Check.due(what, want, call); }

    /** Promise 5: "0 ALDERMEN .. 13 to 15 STATUS 0 to 2. NoSuchElementException: another what". */
    private static void counts() {
        CuckooMayor x = Check.town(TOWN);
        Check.range("count", 0, 15, NO_SUCH, x::count);
        x.hours(3);
        x.spider(5);
        x.see(1, 1);
        x.wind(0);
        x.wind(0);
        x.see(0, 0);
        x.see(0, 0);
        x.see(0, 0);
        Check.tell(x, "?");
        x.feed(0, 0, 0, 0, 0);
        int[] counts = {3, 3, 3, 6, 27, 5, 49, 4, 1, 4, 2, 1, 20, 1, 2, 3};
        for (int what = 0; what < 16; what++) { int w = what; due("count(" + w + ")", counts[w], () -> x.count(w)); }
    }

    /** Promise 6: "NoSuchElementException: no such ALDERMAN (as everywhere), what". */
    private static void ofAnAlderman() {
        CuckooMayor x = Check.town(TOWN);
        Check.range("alderman", 0, 2, NO_SUCH, a -> x.alderman(a, 0));
        for (int a = 0; a < 3; a++) { int who = a; Check.range("alderman of " + a, 0, 2, NO_SUCH, w -> x.alderman(who, w)); }
        int[] lean = {-9, 2, 9};
        for (int a = 0; a < 3; a++) {
            int who = a;
            due("LEAN", lean[a], () -> x.alderman(who, 0));
            due("DEAF", who + 1, () -> x.alderman(who, 1));
        }
        CuckooMayor seven = Check.town("alderman 1 1;".repeat(7));
        Check.range("alderman of seven", 0, 6, NO_SUCH, a -> seven.alderman(a, 0));
        Check.range("bribe of seven", 0, 6, NO_SUCH, a -> seven.bribe(a, 1));
        Check.range("allies of seven", 0, 6, NO_SUCH, a -> seven.allies(a, 0));
        Check.range("other allies of seven", 0, 6, NO_SUCH, a -> seven.allies(0, a));
        CuckooMayor none = Check.town("law 1 1 1;");
        due("the first of none", NO_SUCH, () -> none.alderman(0, 0));
        due("bribed", NO_SUCH, () -> none.bribe(0, 1));
        due("allied", NO_SUCH, () -> none.allies(0, 0));
    }

    /** Promise 7: "NoSuchElementException: no such MOTION (as everywhere), what". */
    private static void ofAMotion() {
        CuckooMayor x = Check.town(TOWN);
        for (int m = 0; m < 3; m++) { int which = m; Check.range("motion " + m, 0, 6, NO_SUCH, w -> x.motion(which, w)); }
        int[][] told = {{0, 1, 1, 4, -1, 0, 0}, {1, 9, 2, 2, 0, 0, 1}, {2, 24, 9, -9, 1, 0, 2}};
        for (int m = 0; m < 3; m++) for (int w = 0; w < 7; w++) { int which = m; int what = w; due("motion(" + m + ", " + w + ")", told[m][w], () -> x.motion(which, what)); }
        for (int many = 0; many <= 10; many++) {
            CuckooMayor y = Check.town("alderman 1 1;" + "law 9 1 1;".repeat(many));
            int all = many;
            Check.Ask[] asks = {m -> y.motion(m, 0), m -> y.move(m, 9), y::when, m -> y.moving(m, 0), m -> y.votes(m, 1), m -> y.bought(m, 1), m -> y.bribery(m, 1), y::needs, y::heldUp,
                m -> y.game(m, m == 0 ? 1 : 0, 0), m -> y.game(m == 0 ? 1 : 0, m, 0)};
            for (int i = 0; i < asks.length; i++) {
                Check.Ask ask = asks[i];
                due(i + ": the MOTION ahead of the first", NO_SUCH, () -> ask.answer(-1));
                due(i + ": the MOTION behind the last of " + all, NO_SUCH, () -> ask.answer(all));
                due(i + ": the least int", NO_SUCH, () -> ask.answer(LEAST));
                due(i + ": the highest int", NO_SUCH, () -> ask.answer(MOST));
            }
            for (int i = 0; i < 9 && all > 0; i++) {
                Check.Ask ask = asks[i];
                Check.holds(i + ": the last MOTION of " + all, ask.answer(all - 1) >= -1 && ask.answer(0) >= -1);
            }
        }
        CuckooMayor chain = Check.town("law1 1 1;law1 1 1behind0;law1 1 1behind1;law1 1 1behind2;law1 1 1behind3;law1 1 1behind4;law1 1 1behind5;law1 1 1behind6;law1 1 1behind7;law1 1 1behind8;");
        for (int m = 0; m < 10; m++) { int which = m; due("CHAIN of " + m, which, () -> chain.motion(which, 6)); }
        for (int m = 0; m < 10; m++) { int which = m; due("needs(" + m + ")", (1 << which) - 1, () -> chain.needs(which)); }
        due("BLOCKED, all but the first", 1022, () -> chain.count(9));
    }

    /** Promise 8: "HOURS go by: the HOUR. NONE (STATUS 1): not 1 to 48". */
    private static void hours() {
        CuckooMayor x = Check.town(TOWN);
        Check.act("hours(1)", x, 1, () -> x.hours(1));
        Check.act("hours(48)", x, 49, () -> x.hours(48));
        Check.act("hours(47)", x, 96, () -> x.hours(47));
        for (int many : new int[] {0, -1, 49, LEAST, MOST}) Check.refused("hours(" + many + ")", x, -1, 1, () -> x.hours(many));
    }

    /** Promise 8: "NONE (STATUS 1): .. it would be above 9999". */
    private static void hoursUpTo9999() {
        CuckooMayor x = Check.town(TOWN);
        for (int i = 0; i < 207; i++) x.hours(48);
        due("the HOUR", 9936, () -> x.count(2));
        Check.act("hours(48) to 9984", x, 9984, () -> x.hours(48));
        for (int many : new int[] {16, 17, 48, 49}) Check.refused("hours(" + many + ") above 9999", x, -1, 1, () -> x.hours(many));
        Check.act("hours(15) to 9999", x, 9999, () -> x.hours(15));
        for (int many : new int[] {1, 48, 0, LEAST, MOST}) Check.refused("hours(" + many + ") at 9999", x, -1, 1, () -> x.hours(many));
        x.wind(99);
        x.oil(99);
        due("HOUR 9999 may be asked", 3, () -> x.saying(1));
        due("and HOURS beyond it", 4, () -> x.saying(2));
        x.undo();
        x.undo();
        x.undo();
        Check.act("hours(14) to 9998", x, 9998, () -> x.hours(14));
        Check.refused("hours(2) to 10000", x, -1, 1, () -> x.hours(2));
        Check.act("hours(1) to 9999", x, 9999, () -> x.hours(1));
    }

    /** Promise 9: "WINDS: the WEIGHT. NONE (STATUS 1): not 1 to 99"; "(WEIGHT so many more, 99 at most)". */
    private static void wind() {
        CuckooMayor x = Check.town("clock 9 30 50;");
        Check.act("wind(1)", x, 31, () -> x.wind(1));
        Check.act("wind(67) to 98", x, 98, () -> x.wind(67));
        Check.act("wind(1) to 99", x, 99, () -> x.wind(1));
        Check.act("wind(1) at 99", x, 99, () -> x.wind(1));
        Check.act("wind(99) at 99", x, 99, () -> x.wind(99));
        for (int more : new int[] {0, -1, 100, LEAST, MOST}) Check.refused("wind(" + more + ")", x, -1, 1, () -> x.wind(more));
        CuckooMayor y = Check.town("clock 9 0 50;");
        Check.act("wind(99) from 0", y, 99, () -> y.wind(99));
        CuckooMayor z = Check.town("clock 9 1 50;");
        Check.act("wind(98) from 1", z, 99, () -> z.wind(98));
        z.undo();
        Check.act("wind(99) from 1", z, 99, () -> z.wind(99));
        due("OIL stays", 9, () -> z.count(3));
    }

    /** Promise 10: "OILS: the OIL. NONE (STATUS 1): not 1 to 99"; "(OIL likewise)". */
    private static void oil() {
        CuckooMayor x = Check.town("clock 30 9 50;");
        Check.act("oil(1)", x, 31, () -> x.oil(1));
        Check.act("oil(67) to 98", x, 98, () -> x.oil(67));
        Check.act("oil(1) to 99", x, 99, () -> x.oil(1));
        Check.act("oil(1) at 99", x, 99, () -> x.oil(1));
        Check.act("oil(99) at 99", x, 99, () -> x.oil(99));
        for (int more : new int[] {0, -1, 100, LEAST, MOST}) Check.refused("oil(" + more + ")", x, -1, 1, () -> x.oil(more));
        CuckooMayor y = Check.town("clock 0 9 50;");
        Check.act("oil(99) from 0", y, 99, () -> y.oil(99));
        CuckooMayor z = Check.town("clock 1 9 50;");
        Check.act("oil(98) from 1", z, 99, () -> z.oil(98));
        z.undo();
        Check.act("oil(99) from 1", z, 99, () -> z.oil(99));
        due("WEIGHT stays", 9, () -> z.count(4));
    }

    /** Promise 11: "HOURS that there were left of one. NONE (STATUS 1): not 1 to 24"; "(if one is there, so many in all from now on)". */
    private static void spider() {
        CuckooMayor x = Check.town(TOWN);
        Check.act("spider(24), none being there", x, 0, () -> x.spider(24));
        due("HOURS of it", 24, () -> x.count(5));
        Check.act("spider(1), 24 being left", x, 24, () -> x.spider(1));
        due("1 in all", 1, () -> x.count(5));
        Check.act("spider(24), 1 being left", x, 1, () -> x.spider(24));
        due("24 in all", 24, () -> x.count(5));
        x.hours(23);
        Check.act("spider(2), 1 being left", x, 1, () -> x.spider(2));
        x.hours(2);
        Check.act("spider(1), 0 being left", x, 0, () -> x.spider(1));
        for (int many : new int[] {0, -1, 25, LEAST, MOST}) Check.refused("spider(" + many + ")", x, -1, 1, () -> x.spider(many));
    }

    /** Promise 12: "BRIBED: LEAN then. -10 (STATUS 1): not 1 to 9"; "(LEAN so much more, 1 to 9, 9 at most)". */
    private static void bribe() {
        CuckooMayor x = Check.town("clock 9 9 999;alderman -9 0;alderman 0 0;alderman 8 0;alderman 9 0;");
        Check.act("bribe(0, 1) from -9", x, -8, () -> x.bribe(0, 1));
        Check.act("bribe(0, 9) from -8", x, 1, () -> x.bribe(0, 9));
        Check.act("bribe(0, 8) from 1", x, 9, () -> x.bribe(0, 8));
        Check.act("bribe(1, 9) from 0", x, 9, () -> x.bribe(1, 9));
        Check.act("bribe(2, 1) from 8", x, 9, () -> x.bribe(2, 1));
        x.undo();
        Check.act("bribe(2, 2) from 8", x, 9, () -> x.bribe(2, 2));
        Check.act("bribe(3, 1) at 9", x, 9, () -> x.bribe(3, 1));
        Check.act("bribe(3, 9) at 9", x, 9, () -> x.bribe(3, 9));
        due("as much of TREASURY", 999 - 1 - 9 - 8 - 9 - 2 - 1 - 9, () -> x.count(6));
        for (int much : new int[] {0, -1, 10, LEAST, MOST}) Check.refused("bribe(0, " + much + ")", x, -10, 1, () -> x.bribe(0, much));
        for (int a : new int[] {-1, 4, 7, LEAST, MOST}) {
            Check.refused("bribe(" + a + ", 1)", x, NO_SUCH, -1, () -> x.bribe(a, 1));
            Check.refused("bribe(" + a + ", 0): no such ALDERMAN comes first", x, NO_SUCH, -1, () -> x.bribe(a, 0));
            Check.refused("bribe(" + a + ", 10)", x, NO_SUCH, -1, () -> x.bribe(a, 10));
        }
    }

    /** Promise 12: "-10 (STATUS 1): .. more than TREASURY". */
    private static void bribeOutOfTreasury() {
        for (int treasury = 0; treasury <= 10; treasury++) {
            for (int much = 1; much <= 9; much++) {
                CuckooMayor x = Check.town("clock 9 9 " + treasury + ";alderman -9 0;");
                int given = much;
                if (much <= treasury) Check.act(much + " of " + treasury, x, much - 9, () -> x.bribe(0, given));
                else Check.refused(much + " of " + treasury, x, -10, 1, () -> x.bribe(0, given));
                int left = much <= treasury ? treasury - much : treasury;
                due("what is left", left, () -> x.count(6));
            }
        }
    }

    /** Promise 13: "MOVED: the CALL as it was. NONE (STATUS 1): PASSED, not 0 to 24". */
    private static void move() {
        CuckooMayor x = Check.town(TOWN);
        Check.act("move(0, 0)", x, 1, () -> x.move(0, 0));
        Check.act("move(0, 24)", x, 0, () -> x.move(0, 24));
        Check.act("move(0, 24) once more", x, 24, () -> x.move(0, 24));
        Check.act("move(0, 12)", x, 24, () -> x.move(0, 12));
        due("the CALL", 12, () -> x.motion(0, 1));
        for (int call : new int[] {-1, 25, LEAST, MOST}) Check.refused("move(0, " + call + ")", x, -1, 1, () -> x.move(0, call));
        x.hours(1);
        due("PASSED", 1, () -> x.motion(0, 5));
        for (int call : new int[] {0, 12, 24, 25}) Check.refused("move(0, " + call + ") of a PASSED one", x, -1, 1, () -> x.move(0, call));
        x.undo();
        Check.act("move(0, 3) of one that is PASSED no more", x, 12, () -> x.move(0, 3));
        for (int m : new int[] {-1, 3, 10, LEAST, MOST}) {
            Check.refused("move(" + m + ", 1)", x, NO_SUCH, -1, () -> x.move(m, 1));
            Check.refused("move(" + m + ", 25): no such MOTION comes first", x, NO_SUCH, -1, () -> x.move(m, 25));
        }
    }

    /** "ACTS (at most 40 are kept, the latest ones)", of each kind. */
    private static void fortyActs() {
        for (int many : new int[] {39, 40, 41, 45, 80, 81, 200}) {
            CuckooMayor x = Check.town("clock 0 0 999;alderman 1 1;law 9 1 1;");
            int kept = Math.min(40, many);
            int[] hourBehind = new int[many + 1];
            for (int i = 1; i <= many; i++) {
                switch (i % 6) {
                    case 0: x.hours(1); break;
                    case 1: x.wind(1); break;
                    case 2: x.oil(1); break;
                    case 3: x.spider(1); break;
                    case 4: x.bribe(0, 1); break;
                    default: x.move(0, i % 25); break;
                }
                hourBehind[i] = x.count(2) * 100000 + x.count(6) * 100 + x.motion(0, 1);
            }
            hourBehind[0] = 99900 + 9;
            due("kept of " + many, kept, () -> x.count(10));
            for (int left = kept - 1; left >= 0; left--) {
                int l = left;
                due("undo, " + left + " left", l, x::undo);
                due("as it was ahead of it", hourBehind[many - kept + left], () -> x.count(2) * 100000 + x.count(6) * 100 + x.motion(0, 1));
            }
            Check.refused("none is left of " + many, x, -1, -1, x::undo);
        }
        CuckooMayor y = Check.town("clock 0 0 0;");
        for (int i = 0; i < 40; i++) y.wind(1);
        for (int i = 0; i < 5; i++) y.wind(0);
        for (int i = 0; i < 40; i++) y.undo();
        due("refused ones are not kept", 0, () -> y.count(4));
        for (int i = 0; i < 41; i++) y.wind(1);
        y.undo();
        y.oil(7);
        due("one of 41 undone, another one done", 40, () -> y.count(10));
        for (int i = 0; i < 40; i++) y.undo();
        due("the first of 41 stays", 1, () -> y.count(4));
        due("OIL is undone", 0, () -> y.count(3));
    }

    /** "They are UNDONE, the last one first"; promise 14: "how many are left". */
    private static void lastOneFirst() {
        CuckooMayor x = Check.town(TOWN);
        String[] all = new String[7];
        all[0] = Check.all(x);
        x.hours(2);
        all[1] = Check.all(x);
        x.wind(2);
        all[2] = Check.all(x);
        x.oil(2);
        all[3] = Check.all(x);
        x.spider(2);
        all[4] = Check.all(x);
        x.bribe(1, 2);
        all[5] = Check.all(x);
        x.move(2, 2);
        all[6] = Check.all(x);
        for (int left = 5; left >= 0; left--) {
            int l = left;
            due("undo, " + l + " left", l, x::undo);
            Check.holds("as it was ahead of ACT " + l, all[l].equals(Check.all(x)));
        }
    }

    /** Promise 14: "NONE: there is none". */
    private static void nothingToUndo() {
        CuckooMayor x = Check.town(TOWN);
        Check.refused("undo() at first", x, -1, -1, x::undo);
        x.hours(1);
        due("one", 0, x::undo);
        Check.refused("undo() behind one", x, -1, -1, x::undo);
        x.see(1, 1);
        Check.refused("what is SEEN is no ACT", x, -1, -1, x::undo);
    }

    /** Promise 34: "(number NONE: nothing): how much is. NONE (STATUS 2): .. not 1 to 48, no such number". */
    private static void see() {
        CuckooMayor x = Check.town(TOWN);
        due("see(1, -1)", 1, () -> x.see(1, -1));
        due("see(48, 0)", 2, () -> x.see(48, 0));
        due("see(1, 24)", 3, () -> x.see(1, 24));
        due("see(48, 24)", 4, () -> x.see(48, 24));
        for (int k : new int[] {0, -1, 49, LEAST, MOST}) Check.refused("see(" + k + ", 1)", x, -1, 2, () -> x.see(k, 1));
        for (int n : new int[] {-2, 25, LEAST, MOST}) Check.refused("see(1, " + n + ")", x, -1, 2, () -> x.see(1, n));
        due("still 4", 4, () -> x.count(11));
        due("no ACT", 0, () -> x.count(10));
        CuckooMayor y = Check.town("clock 99 48 0;says weight;");
        y.see(48, 1);
        due("1 in the 48th", 1, () -> y.fouled(2));
        y.see(1, 24);
        due("24 in the first", 1, () -> y.fouled(2));
        y.see(1, -1);
        due("nothing in the first", 0, () -> y.fouled(2));
        CuckooMayor z = Check.town("clock 99 47 0;says weight;");
        z.see(48, -1);
        due("nothing in the 48th", 1, () -> z.fouled(2));
        z.see(48, 0);
        due("0 in the 48th is not nothing", 0, () -> z.fouled(2));
    }

    /** "SEEN (at most 8)"; promise 34: "NONE (STATUS 2): there are 8". */
    private static void eightSeen() {
        CuckooMayor x = Check.town("clock 99 99 0;");
        for (int i = 1; i <= 7; i++) { int many = i; due("see " + i, many, () -> x.see(1, 12)); }
        due("so far it is so", 1, () -> x.fouled(2));
        due("the 8th", 8, () -> x.see(1, 11));
        due("counts", 0, () -> x.fouled(2));
        Check.refused("the 9th", x, -1, 2, () -> x.see(1, 12));
        Check.refused("the 9th, not 1 to 48 either", x, -1, 2, () -> x.see(49, 12));
        due("8", 8, () -> x.count(11));
    }

    /** Promise 37: "All that is SEEN is forgotten". */
    private static void forget() {
        CuckooMayor x = Check.town(TOWN);
        x.forget();
        due("nothing to forget", 0, () -> x.count(11));
        String all = Check.all(x);
        x.see(0, 0);
        for (int i = 0; i < 8; i++) x.see(1, 0);
        x.forget();
        Check.holds("all as ahead of it", all.equals(Check.all(x)));
        due("STATUS 2 stays", 1, () -> x.count(15));
        for (int i = 1; i <= 8; i++) { int many = i; due("see again " + i, many, () -> x.see(1, 12)); }
        due("what is SEEN again alone counts", 1, () -> x.fouled(2));
    }

    /** Promise 40: "AN IMAGE is kept, in place of another one"; promise 41: "It is as the IMAGE again: true". */
    private static void image() {
        CuckooMayor x = Check.town(TOWN);
        x.image();
        due("at once", 1, () -> x.restore() ? 1 : 0);
        x.hours(1);
        x.image();
        String one = Check.all(x);
        x.hours(2);
        due("the second image", 1, () -> x.restore() ? 1 : 0);
        Check.holds("in place of the first", one.equals(Check.all(x)));
        x.hours(5);
        due("restored once more", 1, () -> x.restore() ? 1 : 0);
        Check.holds("as before", one.equals(Check.all(x)));
        x.undo();
        x.wind(1);
        x.see(2, 2);
        x.restore();
        Check.holds("what is done behind restore() is none of the image's", one.equals(Check.all(x)));
    }

    /** "AN IMAGE keeps all that HOURS and ACTS change, ACTS that are kept, what is SEEN, STATUS". */
    private static void imageKeeps() {
        CuckooMayor x = Check.town(TOWN);
        x.hours(13);
        x.bribe(1, 2);
        x.move(2, 2);
        x.spider(2);
        x.see(1, -1);
        x.see(3, 3);
        x.wind(0);
        x.see(0, 0);
        x.see(0, 0);
        String all = Check.all(x);
        x.image();
        changeAll(x);
        due("restored", 1, () -> x.restore() ? 1 : 0);
        Check.holds("all but the place of the FAULT", all.replace("fault -1", "fault 0").equals(Check.all(x)));
        due("STATUS", 1, () -> Check.status(x).equals("0 1 2") ? 1 : 0);
        for (int left = 3; left >= 0; left--) { int l = left; due("its ACTS undone", l, x::undo); }
        int[] first = {3, 3, 0, 9, 30, 0, 50, 0, 0, 6, 0, 2};
        for (int what = 0; what < first.length; what++) { int w = what; due("count(" + w + ") then", first[w], () -> x.count(w)); }
        due("its first CALL", 24, () -> x.motion(2, 1));
        due("its first LEAN", 2, () -> x.alderman(1, 0));
    }

    private static void changeAll(CuckooMayor x) {
        for (int i = 0; i < 41; i++) x.wind(1);
        x.hours(48);
        x.oil(9);
        x.spider(24);
        x.bribe(0, 9);
        x.move(2, 5);
        x.forget();
        x.see(4, 4);
        x.see(0, 0);
        x.wind(0);
        Check.tell(x, "?");
    }

    /** Promise 41: "False: there is none". */
    private static void noImage() {
        CuckooMayor x = new CuckooMayor();
        Check.refused("of a new object", x, 0, -1, () -> x.restore() ? 1 : 0);
        x.hours(1);
        Check.refused("behind an ACT", x, 0, -1, () -> x.restore() ? 1 : 0);
        x.image();
        Check.tell(x, "?");
        due("a FAULT leaves the image", 1, () -> x.restore() ? 1 : 0);
        x.feed(0, 0, 0, 0, 0);
        due("borough(21)", Check.ILLEGAL, () -> x.borough(21));
        due("an exception leaves it, too", 1, () -> x.restore() ? 1 : 0);
        due("borough(0)", 0, () -> x.borough(0));
        Check.refused("behind another BOROUGH", x, 0, -1, () -> x.restore() ? 1 : 0);
    }

    /** "STATUS: how many calls were refused: 0 TEXTS with a FAULT, 1 ACTS, 2 what is SEEN": none of the others counts. */
    private static void status() {
        CuckooMayor x = Check.town(TOWN);
        Check.Call[] refused = {() -> x.borough(1), () -> x.count(16), () -> x.alderman(3, 0), () -> x.motion(3, 0), () -> x.bribe(3, 1), () -> x.move(3, 1), () -> x.saying(0), () -> x.when(3), () -> x.then(97, 0),
            () -> x.fails(2), () -> x.calls(25, 0), () -> x.toWind(0), () -> x.moving(3, 0), () -> x.votes(0, 25), () -> x.bought(0, 25), () -> x.order(2), () -> x.bribery(0, 25), () -> x.needs(3), () -> x.allies(3, 0),
            () -> x.passing(97), () -> x.toOil(0), () -> x.hush(97, 0), () -> x.word(97), () -> x.heldUp(3), () -> x.fouled(3), () -> x.listen(2), () -> x.game(0, 0, 0), () -> x.years(1, 97, 0)};
        for (int i = 0; i < refused.length; i++) {
            int which = i;
            String before = Check.all(x) + Check.status(x);
            boolean threw = false;
            try {
                refused[i].answer();
            } catch (RuntimeException e) {
                threw = true;
            }
            Check.holds("refused call " + which + " throws", threw);
            Check.holds("refused call " + which + " changes nothing", before.equals(Check.all(x) + Check.status(x)));
        }
        for (int i = 1; i <= 3; i++) {
            int many = i;
            Check.tell(x, "?");
            due("STATUS 0", many, () -> x.count(13));
        }
        due("STATUS 1", 0, () -> x.count(14));
        due("STATUS 2", 0, () -> x.count(15));
    }
}
