/** Each sentence about an HOUR that names an edge ("Terms" ==== 2): what is SAID, what is voted on, what is PASSED, what is less then. */
public final class EdgeOfHourTest {
    public static void main(String[] args) {
        hourOfTheClock();
        day();
        weightThatIs0();
        spiderThatIsThere();
        keptTo24();
        half();
        oilThatIsUsedUp();
        calls();
        followingOnes();
        hearing();
        beingFor();
        moreThanNot();
        costAndTreasury();
        tolls();
        joy();
        passedOnce();
        valuesOfVotes();
        Check.end();
    }

    private static void due(String what, long want, Check.Call call) { Check.due(what, want, call); }

    private static int passedIn(int hours, String text) {
        CuckooMayor x = Check.town(text);
        x.hours(hours);
        return x.count(8);
    }

    /** "HOURS are counted from 0; HOUR h is that of the clock that is h MOD 12, 12 for 0". */
    private static void hourOfTheClock() {
        CuckooMayor plain = Check.town("clock 99 99 0;");
        CuckooMayor rule = Check.town("clock 99 99 0;says hour;");
        int[] edges = {0, 12, 1, 1, 2, 2, 11, 11, 12, 12, 13, 1, 23, 11, 24, 12, 25, 1, 95, 11};
        for (int i = 0; i < edges.length; i += 2) {
            int h = edges[i];
            int want = edges[i + 1];
            due("HOUR " + h + " without SAYS", want, () -> plain.saying(h + 1));
            due("HOUR " + h + " by SAYS", want, () -> rule.saying(h + 1));
        }
        due("the HOUR at first", 0, () -> plain.count(2));
        plain.hours(11);
        due("HOUR 11", 11, () -> plain.saying(1));
        plain.hours(1);
        due("HOUR 12", 12, () -> plain.saying(1));
        plain.hours(1);
        due("HOUR 13", 1, () -> plain.saying(1));
    }

    /** "the day is h by 24, cut down". */
    private static void day() {
        CuckooMayor x = Check.town("clock 99 99 0;says day;");
        int[] edges = {0, 0, 23, 0, 24, 1, 47, 1, 48, 2, 71, 2, 72, 3, 95, 3};
        for (int i = 0; i < edges.length; i += 2) { int h = edges[i]; int want = edges[i + 1]; due("day of HOUR " + h, want, () -> x.saying(h + 1)); }
        CuckooMayor late = Check.town("clock 99 99 0;says day-400;");
        for (int i = 0; i < 208; i++) late.hours(48);
        due("the 208th two days are over", 9984, () -> late.count(2));
        late.wind(99);
        late.oil(99);
        due("day 416", 16, () -> late.saying(1));
        due("HOUR 9999 is of day 416, too", 16, () -> late.saying(16));
        due("HOUR 10007 as well", 16, () -> late.saying(24));
        due("HOUR 10008 is of day 417", 17, () -> late.saying(25));
        late.undo();
        late.undo();
        late.undo();
        late.wind(99);
        late.oil(99);
        due("HOUR 9983 is of day 415", 15, () -> late.saying(48));
        due("HOUR 9984 is not", 16, () -> late.saying(49));
    }

    /** "if WEIGHT is 0 .. nothing is SAID"; "Then WEIGHT is 1 less (not below 0)". */
    private static void weightThatIs0() {
        CuckooMayor none = Check.town("clock 9 0 0;says 5;");
        due("WEIGHT 0", -1, () -> none.saying(1));
        none.hours(3);
        due("WEIGHT isn't below 0", 0, () -> none.count(4));
        due("OIL is not used", 9, () -> none.count(3));
        due("the HOUR is", 3, () -> none.count(2));
        CuckooMayor one = Check.town("clock 9 1 0;says 5;");
        due("WEIGHT 1", 5, () -> one.saying(1));
        due("then 0", -1, () -> one.saying(2));
        one.hours(1);
        due("WEIGHT 1 less", 0, () -> one.count(4));
        due("OIL 1 less", 8, () -> one.count(3));
        one.hours(1);
        due("WEIGHT no less", 0, () -> one.count(4));
        due("OIL no less", 8, () -> one.count(3));
        one.wind(1);
        due("wound, it says again", 5, () -> one.saying(1));
        due("MOTIONS at 0 are not voted on when nothing is SAID", 0, () -> passedIn(9, "clock 9 0 9;alderman 9 0;law 0 0 0;votes 1;"));
        due("when 0 is SAID they are", 1, () -> passedIn(1, "clock 9 1 9;alderman 9 0;law 0 0 0;says 0;votes 1;"));
    }

    /** "or a SPIDER is there (so many HOURS more), nothing is SAID"; "a SPIDER is there for 1 less (not below 0)". */
    private static void spiderThatIsThere() {
        CuckooMayor x = Check.town("clock 9 9 0;says 5;");
        x.spider(1);
        due("a SPIDER for 1", -1, () -> x.saying(1));
        due("then for 0", 5, () -> x.saying(2));
        x.hours(1);
        due("for 1 less", 0, () -> x.count(5));
        due("WEIGHT 1 less nevertheless", 8, () -> x.count(4));
        due("OIL is not used", 9, () -> x.count(3));
        x.hours(1);
        due("not below 0", 0, () -> x.count(5));
        due("OIL is used again", 8, () -> x.count(3));
        x.spider(24);
        due("the 24th", -1, () -> x.saying(7));
        x.wind(99);
        due("the 24th, wound", -1, () -> x.saying(24));
        due("the 25th", 5, () -> x.saying(25));
        x.hours(23);
        due("for 1 more", 1, () -> x.count(5));
        CuckooMayor still = Check.town("clock 9 0 0;");
        still.spider(2);
        still.hours(1);
        due("for 1 less without WEIGHT, too", 1, () -> still.count(5));
    }

    /** "what SAYS gives (..; kept to 0 to 24)". */
    private static void keptTo24() {
        String[] rules = {"0-9999", "0-1", "0", "1", "23", "24", "25", "9999", "9999*9999*22", "0-9999*9999*22"};
        int[] said = {0, 0, 0, 1, 23, 24, 24, 24, 0, 24};
        for (int i = 0; i < rules.length; i++) { String r = rules[i]; int want = said[i]; due("says " + r, want, () -> Check.town("says " + r + ";").saying(1)); }
    }

    /** "or half of that, cut down, if OIL is 0". */
    private static void half() {
        String[] rules = {"0-3", "0", "1", "2", "3", "23", "24", "25", "49", "9999"};
        int[] said = {0, 0, 0, 1, 1, 11, 12, 12, 12, 12};
        int[] whole = {0, 0, 1, 2, 3, 23, 24, 24, 24, 24};
        for (int i = 0; i < rules.length; i++) {
            String r = rules[i];
            int want = said[i];
            int all = whole[i];
            due("half of " + r, want, () -> Check.town("clock 0 9 0;says " + r + ";").saying(1));
            due("OIL 1 left: " + r, all, () -> Check.town("clock 1 9 0;says " + r + ";").saying(1));
            due("OIL 1 left, the next: " + r, want, () -> Check.town("clock 1 9 0;says " + r + ";").saying(2));
        }
        due("half of 'hour'", 6, () -> Check.town("clock 0 9 0;").saying(1));
        due("half of 1 of the clock", 0, () -> Check.town("clock 0 9 0;").saying(2));
    }

    /** "OIL is 1 less then (not below 0)". */
    private static void oilThatIsUsedUp() {
        CuckooMayor x = Check.town("clock 2 9 0;says oil+1;");
        due("OIL as it is ahead of the HOUR", 3, () -> x.saying(1));
        due("1 less", 2, () -> x.saying(2));
        due("at 0 by half", 0, () -> x.saying(3));
        x.hours(2);
        due("OIL 0", 0, () -> x.count(3));
        x.hours(1);
        due("not below 0", 0, () -> x.count(3));
        due("WEIGHT as it is ahead of the HOUR", 7, () -> Check.town("clock 9 7 0;says weight;").saying(1));
        due("1 less then", 6, () -> Check.town("clock 9 7 0;says weight;").saying(2));
    }

    /** "each whose CALL is what is SAID". */
    private static void calls() {
        due("11, 12, 13 at 12", 2, () -> passedIn(1, "alderman 9 0;law 11 0 0;law 12 0 0;law 13 0 0;"));
        due("23, 24 at 24", 2, () -> passedIn(1, "alderman 9 0;law 23 0 0;law 24 0 0;says 25;"));
        due("0, 1 at 0", 1, () -> passedIn(1, "alderman 9 0;law 0 0 0;law 1 0 0;says 0;"));
        due("by half", 1, () -> passedIn(1, "clock 0 9 9;alderman 9 0;law 6 0 0;law 12 0 0;"));
    }

    /** "in their order .. and which follows none, or a PASSED one". */
    private static void followingOnes() {
        due("one behind the other in one HOUR", 7, () -> passedIn(1, "alderman 0 0;law 12 0 1;law 12 0 1 behind 0;law 12 0 1 behind 1;"));
        due("the one that it follows isn't PASSED", 2, () -> passedIn(1, "alderman 0 0;law 12 0 -1;law 12 0 1;law 12 0 1 behind 0;"));
        due("an HOUR too early", 1, () -> passedIn(2, "alderman 0 0;law 1 0 1;law 12 0 1 behind 0;"));
        due("until it comes again", 1, () -> passedIn(12, "alderman 0 0;law 1 0 1;law 12 0 1 behind 0;"));
        due("PASSED in an HOUR ahead", 3, () -> passedIn(13, "alderman 0 0;law 1 0 1;law 12 0 1 behind 0;"));
        due("all ten at once", 1023, () -> passedIn(1, "alderman 0 0;law 12 0 1;" + "law12 0 1behind0;".repeat(9)));
    }

    /** "an ALDERMAN hears what is SAID less DEAF (not below 0)". */
    private static void hearing() {
        for (int deaf : new int[] {0, 1, 9}) {
            for (int said : new int[] {0, 1, 8, 9, 10, 24}) {
                int hears = Math.max(0, said - deaf);
                String text = "alderman 0 " + deaf + ";law 1 1 1;votes heard=" + hears + ";";
                due("DEAF " + deaf + " at " + said, 1, () -> Check.town(text).votes(0, said));
                due("not below 0", 0, () -> Check.town("alderman 0 " + deaf + ";law 1 1 1;votes heard<0;").votes(0, said));
            }
        }
    }

    /** "is for it, if VOTES gives more than 0 (without it: if LEAN and JOY together are more than 0)". */
    private static void beingFor() {
        String[] votes = {"0-9999", "0-1", "0", "1", "2", "9999", "9999*9999*22"};
        int[] isFor = {0, 0, 0, 1, 1, 1, 0};
        for (int i = 0; i < votes.length; i++) {
            String v = votes[i];
            int want = isFor[i];
            due("votes " + v, want, () -> Check.town("alderman 9 0;law 1 1 9;votes " + v + ";").votes(0, 1));
        }
        for (int lean = -9; lean <= 9; lean++) {
            for (int joy = -lean - 1; joy <= -lean + 1; joy++) {
                if (joy < -9 || joy > 9) continue;
                String text = "alderman " + lean + " 0;law 1 1 " + joy + ";";
                int want = lean + joy > 0 ? 1 : 0;
                due(text, want, () -> Check.town(text).votes(0, 1));
            }
        }
        due("of a feast JOY counts once", 0, () -> Check.town("alderman -3 0;feast 1 1 2;").votes(0, 1));
    }

    /** "if more are for it than not", of 0 to 7 ALDERMEN. */
    private static void moreThanNot() {
        for (int all = 0; all <= 7; all++) {
            for (int some = 0; some <= all; some++) {
                String text = "law 12 0 0;" + "alderman 1 0;".repeat(some) + "alderman 0 0;".repeat(all - some);
                int want = some > all - some ? 1 : 0;
                due(some + " of " + all + " for it", want, () -> passedIn(1, text));
            }
        }
    }

    /** "and COST is no more than TREASURY, it is PASSED: TREASURY is COST less". */
    private static void costAndTreasury() {
        for (String kind : new String[] {"law", "feast"}) {
            due(kind + " of 0, nothing there", 1, () -> passedIn(1, "clock 9 9 0;alderman 9 0;" + kind + " 12 0 0;"));
            due(kind + " of 1, nothing there", 0, () -> passedIn(1, "clock 9 9 0;alderman 9 0;" + kind + " 12 1 0;"));
            due(kind + " of 10, 10 there", 1, () -> passedIn(1, "clock 9 9 10;alderman 9 0;" + kind + " 12 10 0;"));
            due(kind + " of 11, 10 there", 0, () -> passedIn(1, "clock 9 9 10;alderman 9 0;" + kind + " 12 11 0;"));
            CuckooMayor x = Check.town("clock 9 9 10;alderman 9 0;" + kind + " 12 10 0;");
            x.hours(1);
            due("all of TREASURY", 0, () -> x.count(6));
        }
        due("what is left is asked", 1 + 4, () -> passedIn(1, "clock 9 9 10;alderman 9 0;law 12 6 0;law 12 5 0;law 12 4 0;"));
        CuckooMayor refused = Check.town("clock 9 9 10;alderman 9 0;law 12 11 5;");
        refused.hours(1);
        due("TREASURY stays", 10, () -> refused.count(6));
        due("JOY stays", 0, () -> refused.count(7));
    }

    /** "of a toll COST more, 9999 at most, and TREASURY isn't asked": a TEXT's highest is 999 and ten tolls of 99. */
    private static void tolls() {
        CuckooMayor x = Check.town("clock 9 9 0;alderman 9 0;law 12 99 0;toll 12 99 0;law 12 99 0;");
        x.hours(1);
        due("TREASURY 0 isn't asked, and has 99 for the next", 6, () -> x.count(8));
        due("which takes them", 0, () -> x.count(6));
        CuckooMayor most = Check.town("clock 9 9 999;alderman 9 0;" + "toll12 99 9;".repeat(10));
        most.hours(1);
        due("TREASURY above 999", 1989, () -> most.count(6));
        due("JOY of tolls once", 90, () -> most.count(7));
        due("a bribe out of that", 9, () -> most.bribe(0, 9));
        due("what is left", 1980, () -> most.count(6));
        due("not for it, no toll", 0, () -> passedIn(1, "clock 9 9 0;alderman 0 0;toll 12 99 0;"));
    }

    /** "all JOY is JOY more (of a feast twice; it may be below 0)". */
    private static void joy() {
        for (int joy : new int[] {-9, -1, 0, 1, 9}) {
            String[] kinds = {"law", "feast", "toll"};
            for (int k = 0; k < 3; k++) {
                String text = "alderman 0 0;votes 1;" + kinds[k] + " 12 0 " + joy + ";";
                int want = k == 1 ? 2 * joy : joy;
                CuckooMayor x = Check.town(text);
                x.hours(1);
                due(text, want, () -> x.count(7));
                due("as told", joy, () -> x.motion(0, 3));
            }
        }
        CuckooMayor low = Check.town("alderman 0 0;votes 1;" + "feast12 0-9;".repeat(10));
        low.hours(1);
        due("the lowest JOY", -180, () -> low.count(7));
        CuckooMayor high = Check.town("alderman 0 0;votes 1;" + "feast12 0 9;".repeat(10));
        high.hours(1);
        due("the highest JOY", 180, () -> high.count(7));
    }

    /** "of MOTIONS that aren't PASSED". */
    private static void passedOnce() {
        CuckooMayor x = Check.town("clock 99 99 99;alderman 0 0;votes 1;law 12 5 3;");
        x.hours(1);
        due("JOY once", 3, () -> x.count(7));
        x.hours(36);
        due("and no more", 3, () -> x.count(7));
        due("COST once", 94, () -> x.count(6));
    }

    /** "VALUES of VOTES, for an ALDERMAN and a MOTION: 'heard', 'lean', 'cost', 'joy', 'kind', 'passed' (how many MOTIONS are)". */
    private static void valuesOfVotes() {
        String two = "alderman -4 1;alderman 6 3;law 12 7 -2;toll 1 8 9;feast 24 0 0;";
        String[] rules = {"heard=4", "heard=2", "lean=0-4", "lean=6", "cost=7", "cost=8", "joy=0-2", "joy=9", "kind=0", "kind=1", "kind=2", "passed=0", "passed=1"};
        int[][] votes = {{1, 1, 1}, {2, 2, 2}, {1, 1, 1}, {2, 2, 2}, {3, 0, 0}, {0, 3, 0}, {3, 0, 0}, {0, 3, 0}, {3, 0, 0}, {0, 0, 3}, {0, 3, 0}, {3, 3, 3}, {0, 0, 0}};
        for (int r = 0; r < rules.length; r++) {
            CuckooMayor x = Check.town(two + "votes " + rules[r] + ";");
            for (int m = 0; m < 3; m++) { int motion = m; int want = votes[r][m]; due("votes " + rules[r] + " of " + m, want, () -> x.votes(motion, 5)); }
        }
        for (int many = 0; many <= 9; many++) {
            String text = "alderman 0 0;votes passed<" + many + ";" + "law 12 0 0;".repeat(10);
            int want = (1 << many) - 1;
            due("as long as fewer than " + many + " are PASSED", want, () -> passedIn(1, text));
        }
        CuckooMayor bribed = Check.town("alderman -4 1;law 12 7 -2;votes lean=5;");
        bribed.bribe(0, 9);
        due("LEAN as it is now", 1, () -> bribed.votes(0, 1));
        bribed.move(0, 3);
        due("whatever its CALL", 1, () -> bribed.votes(0, 24));
    }
}
