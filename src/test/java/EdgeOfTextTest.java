/**
 * Each sentence about a TEXT that names an edge ("Terms" ==== 1, promises 1 to 4), at the last that is allowed
 * and at the first that is not. In a text ^ marks the place of its FAULT.
 */
public final class EdgeOfTextTest {
    private static final int BLANKS = 0x20202020;

    public static void main(String[] args) {
        newObject();
        tapeOf700();
        bytesOfTheTape();
        firstBytesOfTheTape();
        textWithAFault();
        textWithoutAFault();
        place();
        everyByte();
        words();
        digits();
        numbersOfLines();
        withoutALine();
        sevenAldermen();
        tenMotions();
        motionsToldAhead();
        sixOthers();
        sevenNots();
        wordsWhereAPartMustStand();
        secondOnes();
        endsTooSoon();
        firstAlongTheText();
        leastOfOneToken();
        brokenOff();
        rulesOneBehindTheOther();
        sums();
        strengths();
        tests();
        Check.end();
    }

    private static void due(String what, long want, Check.Call call) { Check.due(what, want, call); }

    private static void fault(int kind, String marked) {
        int place = marked.indexOf('^');
        String text = marked.substring(0, place) + marked.substring(place + 1);
        CuckooMayor x = Check.town("clock 1 2 3;alderman 4 5;law 6 7 8;");
        due("FAULT of: " + text, kind, () -> Check.tell(x, text));
        due("place of: " + text, place, x::fault);
    }

    private static void faults(int kind, String... marked) {
        for (String m : marked) fault(kind, m);
    }

    private static void right(String... texts) {
        for (String text : texts) {
            CuckooMayor x = new CuckooMayor();
            due("FAULT of: " + text, 0, () -> Check.tell(x, text));
            due("place of: " + text, -1, x::fault);
        }
    }

    private static void says(int want, String expr) {
        due("says " + expr, want, () -> Check.town("says " + expr + ";").saying(1));
    }

    /** Promise 1: "A CLOCK without ALDERMEN", with what the CLOCK has without a line that tells it. */
    private static void newObject() {
        CuckooMayor x = new CuckooMayor();
        int[] counts = {0, 0, 0, 20, 24, 0, 100, 0, 0, 0, 0, 0, 0, 0, 0, 0};
        for (int what = 0; what < 16; what++) { int w = what; due("new count(" + w + ")", counts[w], () -> x.count(w)); }
        due("no FAULT's place", -1, x::fault);
        due("no ALDERMAN", Check.NO_SUCH, () -> x.alderman(0, 0));
        due("no MOTION", Check.NO_SUCH, () -> x.motion(0, 0));
        due("no ACT", -1, x::undo);
        due("no image", 0, () -> x.restore() ? 1 : 0);
        due("'hour' without SAYS", 12, () -> x.saying(1));
    }

    /** Promise 2: "how many it has; NONE, and none come, if it would have more than 700". */
    private static void tapeOf700() {
        CuckooMayor x = new CuckooMayor();
        for (int i = 1; i <= 34; i++) { int many = 20 * i; due("feed to " + many, many, () -> x.feed(BLANKS, BLANKS, BLANKS, BLANKS, BLANKS)); }
        due("feed from 680 to 700", 700, () -> x.feed(BLANKS, BLANKS, BLANKS, BLANKS, BLANKS));
        Check.refused("feed beyond 700", x, -1, -1, () -> x.feed(0, 0, 0, 0, 0));
        due("700 bytes", 700, () -> x.count(12));
        due("a text of 700 bytes, none of which came later", 0, () -> x.borough(700));
        due("feed behind that", 20, () -> x.feed(BLANKS, BLANKS, BLANKS, BLANKS, BLANKS));
        String full = "says " + "1+".repeat(346) + "1 ;";
        due("a text of 700 bytes that are all needed", 700, () -> full.length());
        CuckooMayor y = new CuckooMayor();
        due("is read to its end", 0, () -> Check.tell(y, full));
        due("and gives 347, kept to 24", 24, () -> y.saying(1));
        String less = "says " + "0+".repeat(346) + "7 ;";
        due("its last NUMBER counts", 0, () -> Check.tell(y, less));
        due("as 7", 7, () -> y.saying(1));
    }

    /** Promise 2: "Twenty bytes come behind the tape, of each number the highest first". */
    private static void bytesOfTheTape() {
        CuckooMayor x = new CuckooMayor();
        due("feed", 20, () -> x.feed(0x20202020, 0x636c6f63, 0x6b203938, 0x20373620, 0x3534333b));
        due("    clock 98 76 543;", 0, () -> x.borough(20));
        due("OIL", 98, () -> x.count(3));
        due("WEIGHT", 76, () -> x.count(4));
        due("TREASURY", 543, () -> x.count(6));
        x.feed(0x636c6f63, 0x6b203132, 0x20333420, 0x3536373b, 0x73617973);
        due("feed behind the first twenty", 40, () -> x.feed(0x2039203b, BLANKS, BLANKS, BLANKS, BLANKS));
        due("clock 12 34 567;says 9 ;", 0, () -> x.borough(40));
        due("OIL of two feeds", 12, () -> x.count(3));
        due("SAYS of two feeds", 9, () -> x.saying(1));
        for (int shift = 0; shift < 32; shift += 8) {
            int bad = BLANKS & ~(255 << shift) | 128 << shift;
            x.feed(BLANKS, bad, BLANKS, BLANKS, BLANKS);
            due("a byte of 128", 1, () -> x.borough(20));
            due("its place", 4 + (24 - shift) / 8, x::fault);
        }
    }

    /** Promise 3: "The tape's first n bytes (it is empty then)"; "the tape has not so many, n below 0 (nothing changes)". */
    private static void firstBytesOfTheTape() {
        CuckooMayor x = new CuckooMayor();
        due("borough(1) of an empty tape", Check.ILLEGAL, () -> x.borough(1));
        due("borough(0) of an empty tape", 0, () -> x.borough(0));
        Check.tell(x, "clock 9 8 7;?");
        int fed = Check.feed(x, "clock 5 6 7;says 3; ");
        due("fed", 20, () -> fed);
        x.hours(2);
        x.see(1, 2);
        x.image();
        for (int n : new int[] {21, 700, 701, Check.MOST, -1, -20, Check.LEAST}) Check.refused("borough(" + n + ") of 20 bytes", x, Check.ILLEGAL, -1, () -> x.borough(n));
        due("the place of the FAULT stays, too", 12, x::fault);
        due("and the image", 1, () -> x.restore() ? 1 : 0);
        due("borough(20) of 20 bytes", 0, () -> x.borough(20));
        due("it is read", 3, () -> x.saying(1));
        due("the tape is empty", 0, () -> x.count(12));
        due("nothing of it is left", Check.ILLEGAL, () -> x.borough(1));
        Check.feed(x, "clock 5 6 7;?");
        due("the first 12 bytes alone", 0, () -> x.borough(12));
        due("the tape is empty, though more was on it", 0, () -> x.count(12));
        Check.feed(x, "clock 5 6 7;?");
        due("the first 13 bytes", 1, () -> x.borough(13));
        Check.feed(x, "?");
        due("the first 0 bytes", 0, () -> x.borough(0));
        due("OIL without a line", 20, () -> x.count(3));
        due("the tape is empty behind 0 bytes", 0, () -> x.count(12));
    }

    /** Promise 3: "or the FAULT (all stays, but STATUS)". */
    private static void textWithAFault() {
        CuckooMayor x = Check.town("clock 9 30 50;alderman 1 1;alderman 2 2;alderman 3 3;law 1 1 1;feast 9 2 2 behind 0;says hour+1;votes lean;");
        x.hours(12);
        x.bribe(0, 3);
        x.move(1, 20);
        x.see(1, 13);
        x.spider(3);
        x.image();
        x.wind(1);
        int refused = 0;
        for (String bad : new String[] {"x", "clock 1 1 1;clock", "alderman 1 1;x", "law 1 1 1;law 1 1 1 behind 0;x", "says 5;votes 1;x", "says (((((((((", "clock 1"}) {
            String all = Check.all(x);
            int place = x.fault();
            refused++;
            int many = refused;
            Check.holds("a FAULT of " + bad, Check.tell(x, bad) > 0);
            due("STATUS 0 behind " + bad, many, () -> x.count(13));
            due("STATUS 1", 0, () -> x.count(14));
            due("STATUS 2", 0, () -> x.count(15));
            Check.holds("all stays behind " + bad, all.replace("fault " + place, "").equals(Check.all(x).replace("fault " + x.fault(), "")));
            due("the tape is empty behind " + bad, 0, () -> x.count(12));
            due("VOTES stays", 7, () -> x.votes(0, 1));
        }
        due("the image stays", 1, () -> x.restore() ? 1 : 0);
        due("with its ACTS", 4, () -> x.count(10));
        due("the last of which is undone", 3, x::undo);
        due("no SPIDER then", 0, () -> x.count(5));
    }

    /** Promise 3: "all anew: 0 .. ACTS, what is SEEN, the image are gone". */
    private static void textWithoutAFault() {
        CuckooMayor x = Check.town("clock 9 30 50;alderman 1 1;law 12 1 1;law 20 1 1 behind 0;says hour;votes lean;");
        x.hours(2);
        x.bribe(0, 3);
        x.move(1, 24);
        x.spider(3);
        x.see(1, 13);
        x.see(0, 0);
        x.hours(0);
        Check.tell(x, "?");
        x.image();
        due("another BOROUGH", 0, () -> Check.tell(x, "alderman -1 0;law 3 2 1;law 20 1 1;"));
        int[] counts = {1, 2, 0, 20, 24, 0, 100, 0, 0, 0, 0, 0, 0, 1, 1, 1};
        for (int what = 0; what < 16; what++) { int w = what; due("count(" + w + ") anew", counts[w], () -> x.count(w)); }
        due("no ACT", -1, x::undo);
        due("no image", 0, () -> x.restore() ? 1 : 0);
        due("LEAN anew", -1, () -> x.alderman(0, 0));
        due("DEAF anew", 0, () -> x.alderman(0, 1));
        due("CALL anew", 20, () -> x.motion(1, 1));
        due("follows none", -1, () -> x.motion(1, 4));
        due("is PASSED no more", 0, () -> x.motion(0, 5));
        due("no VOTES", 0, () -> x.votes(0, 1));
        due("all OILS but one", 99, () -> x.fouled(0));
        x.image();
        x.hours(1);
        due("the same text of 0 bytes", 0, () -> x.borough(0));
        due("no ALDERMEN", 0, () -> x.count(0));
        due("no image of before", 0, () -> x.restore() ? 1 : 0);
    }

    /** Promise 4: "The place of the latest borough()'s FAULT; NONE without". */
    private static void place() {
        CuckooMayor x = new CuckooMayor();
        due("ahead of any text", -1, x::fault);
        Check.tell(x, "   ?");
        due("of the latest text", 3, x::fault);
        due("asked again", 3, x::fault);
        Check.tell(x, "?");
        due("of a later text", 0, x::fault);
        x.hours(1);
        x.undo();
        x.image();
        x.restore();
        Check.feed(x, "clock");
        due("whatever else is called", 0, x::fault);
        x.borough(5);
        due("the text's length", 5, x::fault);
        Check.tell(x, "");
        due("without a FAULT", -1, x::fault);
    }

    /** "TOKENS: words (a .. z), NUMBERS, signs ; ( ) + - * / < = ; blanks (32, 10) between them count for nothing", "or is none". */
    private static void everyByte() {
        for (int i = 0; i < 256; i++) {
            char b = (char) i;
            boolean blank = b == 32 || b == 10;
            CuckooMayor x = new CuckooMayor();
            String alone = String.valueOf(b);
            due("byte " + i + " alone", blank ? 0 : 1, () -> Check.tell(x, alone));
            due("its place", blank ? -1 : 0, x::fault);
            boolean operator = "+-*/<=".indexOf(b) >= 0;
            boolean digit = b >= '0' && b <= '9';
            String between = "says 1" + b + "1;";
            due("byte " + i + " between NUMBERS", operator || digit ? 0 : 1, () -> Check.tell(x, between));
            due("its place between NUMBERS", operator || digit ? -1 : blank || b == ';' ? 7 : 6, x::fault);
            String ahead = "says " + b + ";";
            int kind = b >= 'a' && b <= 'z' ? 3 : digit ? 0 : 1;
            due("byte " + i + " where a PART must stand", kind, () -> Check.tell(x, ahead));
            due("its place there", kind == 0 ? -1 : blank || b == '(' ? 6 : 5, x::fault);
        }
        right("clock 1 2 3;", "clock\n1\n2\n3\n;", "  \n\n clock 1 2 3 ; \n", "clock1 2 3;", "says(1)and(2);");
    }

    /** "words (a .. z, the longest row)". */
    private static void words() {
        faults(1, "^clocks 1 1 1;", "^clocka 1 1 1;", "^clockz 1 1 1;", "^aclock 1 1 1;", "^zclock 1 1 1;", "^cloc k 1 1 1;", "^cl", "^Clock 1 1 1;", "^aldermen 1 1;", "^laws 1 1 1;", "^feasts 1 1 1;", "^tolls 1 1 1;", "^say 1;", "^vote 1;", "law 1 1 1 ^behinds 0;",
            "says 1 ^ors 1;", "says 1 ^ands 1;", "says 1 ^o 1;", "says 1 ^an 1;", "^sayshour;", "^zzz");
        faults(3, "says ^hours;", "says ^houra;", "says ^hourz;", "says ^ahour;", "says ^zhour;", "says ^hou;", "says ^oils;", "says ^weights;", "says ^days;", "votes ^hear;", "votes ^heards;", "votes ^leans;", "votes ^costs;", "votes ^joys;", "votes ^kinds;", "votes ^passe;",
            "says ^nots 1;", "says ^houroil;", "says ^notnot 1;");
        right("says 1or 1and 1;", "says not(1)or not 1;", "says hour+oil;", "law1 1 1;law1 1 1behind0;");
    }

    /** "NUMBERS (1 to 4 digits)"; "a NUMBER of 5 digits or more". */
    private static void digits() {
        right("says 0;", "says 9999;", "says 0000;", "clock 0099 0000 0999;", "law 0 0 0;law 0024 0 -0009 behind 0000;");
        faults(2, "says ^10000;", "says ^00000;", "says ^99999;", "says ^4294967296;", "says ^18446744073709551617;", "votes 1+^00001;", "clock ^00001 1 1;", "clock 1 ^00001 1;", "clock 1 1 ^00001;",
            "alderman ^00000 0;", "alderman -^00000 0;", "alderman 0 ^00000;", "law ^00000 0 0;", "law 0 ^00000 0;", "law 0 0 ^00000;", "law 0 0 -^00000;", "law 0 0 0;law 0 0 0 behind ^00000;");
        says(1, "9999=9999");
        says(1, "0012=12");
        says(10, "1234-1224");
    }

    interface Field { int of(CuckooMayor x); }

    /** A NUMBER of a line, 0 to its highest: as it is read, and as it is refused. */
    private static void number(String head, int highest, String tail, Field field) {
        for (int n : new int[] {0, highest}) due(head + n, n, () -> field.of(Check.town(head + n + tail)));
        fault(2, head + "^" + (highest + 1) + tail);
        fault(2, head + "^9999" + tail);
    }

    private static void neverBelow0(String head, int highest, String tail, Field field) {
        number(head, highest, tail, field);
        fault(1, head + "^-0" + tail);
        fault(1, head + "^-1" + tail);
    }

    private static void perhapsBelow0(String head, int highest, String tail, Field field) {
        number(head, highest, tail, field);
        for (int n : new int[] {0, highest}) due(head + "-" + n, -n, () -> field.of(Check.town(head + "-" + n + tail)));
        fault(2, head + "-^" + (highest + 1) + tail);
        fault(1, head + "-^-1" + tail);
        fault(1, head + "^+1" + tail);
    }

    /** The ranges of OIL, WEIGHT, TREASURY, LEAN, DEAF, CALL, COST, JOY ("not as told"; "'-': below 0"). */
    private static void numbersOfLines() {
        neverBelow0("clock ", 99, " 5 5;", x -> x.count(3));
        neverBelow0("clock 5 ", 99, " 5;", x -> x.count(4));
        neverBelow0("clock 5 5 ", 999, ";", x -> x.count(6));
        perhapsBelow0("alderman ", 9, " 5;", x -> x.alderman(0, 0));
        neverBelow0("alderman 5 ", 9, ";", x -> x.alderman(0, 1));
        for (String kind : new String[] {"law ", "feast ", "toll "}) {
            neverBelow0(kind, 24, " 5 5;", x -> x.motion(0, 1));
            neverBelow0(kind + "5 ", 99, " 5;", x -> x.motion(0, 2));
            perhapsBelow0(kind + "5 5 ", 9, ";", x -> x.motion(0, 3));
        }
        due("law", 0, () -> Check.town("law 1 1 1;").motion(0, 0));
        due("feast", 1, () -> Check.town("feast 1 1 1;").motion(0, 0));
        due("toll", 2, () -> Check.town("toll 1 1 1;").motion(0, 0));
    }

    /** "OIL (20 without), WEIGHT (24 without), TREASURY (100 without)"; SAYS "without it 'hour'"; a MOTION "perhaps" follows one. */
    private static void withoutALine() {
        CuckooMayor x = Check.town("alderman 1 1;law 1 1 1;votes 1;");
        due("OIL without", 20, () -> x.count(3));
        due("WEIGHT without", 24, () -> x.count(4));
        due("TREASURY without", 100, () -> x.count(6));
        due("SAYS without", 12, () -> x.saying(1));
        due("follows none", -1, () -> x.motion(0, 4));
        CuckooMayor y = Check.town("clock 0 0 0;");
        due("OIL 0 told", 0, () -> y.count(3));
        due("WEIGHT 0 told", 0, () -> y.count(4));
        due("TREASURY 0 told", 0, () -> y.count(6));
    }

    /** "ALDERMEN 0, 1 .. (at most 7)"; "the first TOKEN of the 8th ALDERMAN". */
    private static void sevenAldermen() {
        StringBuilder text = new StringBuilder();
        for (int a = 0; a < 7; a++) {
            text.append("alderman -").append(a).append(' ').append(a + 2).append(';');
            int many = a + 1;
            CuckooMayor x = Check.town(text.toString());
            due("ALDERMEN", many, () -> x.count(0));
            due("the last one's LEAN", -(many - 1), () -> x.alderman(many - 1, 0));
            due("the last one's DEAF", many + 1, () -> x.alderman(many - 1, 1));
            due("no such ALDERMAN", Check.NO_SUCH, () -> x.alderman(many, 0));
        }
        fault(2, text + "^alderman 1 1;");
        fault(2, text + "law 1 1 1; ^alderman");
        fault(2, text + "^alderman ?");
        right(text + "law 1 1 1;says 1;");
    }

    /** "MOTIONS 0, 1 .. (at most 10)"; "the first TOKEN of .. the 11th MOTION". */
    private static void tenMotions() {
        StringBuilder text = new StringBuilder();
        String[] kinds = {"law ", "feast ", "toll "};
        for (int m = 0; m < 10; m++) {
            text.append(kinds[m % 3]).append(m + 1).append(' ').append(m + 50).append(" -").append(m).append(';');
            int many = m + 1;
            CuckooMayor x = Check.town(text.toString());
            due("MOTIONS", many, () -> x.count(1));
            int[] want = {(many - 1) % 3, many, many + 49, -(many - 1), -1, 0, 0};
            for (int what = 0; what < 7; what++) { int w = what; due("the last one's " + w, want[w], () -> x.motion(many - 1, w)); }
            due("no such MOTION", Check.NO_SUCH, () -> x.motion(many, 0));
        }
        for (String kind : kinds) {
            fault(2, text + "^" + kind + "1 1 1;");
            fault(2, text + "alderman 1 1;\n^" + kind);
            fault(2, text + "^" + kind + "99 1 1;");
        }
        right(text + "alderman 1 1;says 1;");
    }

    /** "a MOTION that isn't told ahead": the one just ahead is, the one itself isn't. */
    private static void motionsToldAhead() {
        for (int m = 0; m < 10; m++) {
            String ahead = "law 1 1 1;".repeat(m);
            for (int f = 0; f < m; f++) {
                int want = f;
                int last = m;
                CuckooMayor x = Check.town(ahead + "toll 1 1 1 behind " + f + ";");
                due("behind " + f, want, () -> x.motion(last, 4));
                due("CHAIN of one", 1, () -> x.motion(last, 6));
            }
            fault(3, ahead + "law 1 1 1 behind ^" + m + ";");
            fault(3, ahead + "law 1 1 1 behind ^" + (m + 1) + ";");
            fault(3, ahead + "law 1 1 1 behind ^10;");
            fault(3, ahead + "law 1 1 1 behind ^9999;");
            fault(2, ahead + "law 1 1 1 behind ^00000;");
            fault(1, ahead + "law 1 1 1 behind ^-0;");
            fault(1, ahead + "law 1 1 1 behind ^;");
            fault(1, ahead + "law 1 1 1 behind ^law;");
        }
        fault(1, "law 1 1 1;law 1 1 1 behind 0 ^0;");
        fault(1, "law 1 1 1;law 1 1 ^behind 0;");
        fault(1, "alderman 1 1 ^behind 0;");
    }

    /** "the first TOKEN .. of an EXPR within 6 others (a NUMBER, any word, a parenthesis)". */
    private static void sixOthers() {
        right("says (((((1)))));", "votes (((((lean)))));", "says (((((not 1)))));", "says 1*(1*(1*(1*(1*(1*1)))));", "says (((((1))))+((((1)))));", "says " + "(1)+".repeat(20) + "(((((1)))));");
        for (String rule : new String[] {"says ", "votes "}) {
            for (String first : new String[] {"1", "9999", "12345", "hour", "lean", "zzz", "not", "and", "or", "clock", "behind", "law", "("}) {
                fault(2, rule + "((((((^" + first);
                fault(2, rule + "1+(2<(3*(not (4 and (5 or (^" + first + " 1))))));");
            }
            for (String first : new String[] {")", "+", "-", "*", "/", "<", "=", ";", "?", ""}) fault(1, rule + "((((((^" + first);
        }
        right("says (((((1)))));votes (((((1)))));");
        fault(2, "says (((((1)))));votes ((((((^1");
        fault(2, "says 1+(((((1)))))+((((((^1");
        fault(1, "says (((((1)))))^);");
        fault(1, "says (((((1))))^;");
    }

    /** "the seventh 'not' side by side". */
    private static void sevenNots() {
        String six = "not ".repeat(6);
        right("says " + six + "1;", "votes " + six + "lean;", "says " + six + "(" + six + "1);", "says " + six + "1 and " + six + "1 or " + six + "1;", "says (" + six + "1)+(" + six + "1);");
        faults(2, "says " + six + "^not 1;", "votes " + six + "^not 1;", "says 1 and " + six + "^not 1;", "says 1 or " + six + "^not 1;", "says (" + six + "^not 1);", "says " + six + "(" + six + "^not 1);",
            "says " + six + "\n^not", "says " + six + "1 and " + six + "^not");
        fault(2, "says " + "not ".repeat(5) + "not ^not not 1;");
        fault(1, "says " + six + "^;");
        fault(3, "says " + six + "^x;");
        says(1, six + "5");
        says(0, six + "0");
        says(0, "not ".repeat(5) + "5");
    }

    /** "any word where a PART must stand that is no VALUE of this EXPR". */
    private static void wordsWhereAPartMustStand() {
        String[] ofSays = {"hour", "oil", "weight", "day"};
        String[] ofVotes = {"heard", "lean", "cost", "joy", "kind", "passed"};
        String[] never = {"clock", "alderman", "law", "feast", "toll", "says", "votes", "behind", "or", "and", "x", "zz"};
        String[] heads = {"", "1+", "1-", "1*", "1/", "1<", "1=", "1 and ", "1 or ", "not ", "(", "1+(2*", "(((((1)))))+"};
        for (String head : heads) {
            String closing = head.equals("(") || head.equals("1+(2*") ? ")" : "";
            for (String v : ofSays) {
                right("says " + head + v + closing + ";");
                fault(3, "votes " + head + "^" + v + ";");
            }
            for (String v : ofVotes) {
                right("votes " + head + v + closing + ";");
                fault(3, "says " + head + "^" + v + ";");
            }
            for (String v : never) {
                fault(3, "says " + head + "^" + v + ";");
                fault(3, "votes " + head + "^" + v + " 1;");
            }
        }
        faults(3, "says 1+^not 1;", "says 1-^not 1;", "says 1*^not 1;", "says 1/^not 1;", "says 1<^not 1;", "says 1=^not 1;", "says not 1+^not 1;", "says not 1<^not 1;");
        right("says not 1;", "says 1 and not 1;", "says 1 or not 1;", "says (not 1);", "says 1+(not 1);", "says 1<(not 1);");
        faults(1, "says 1 ^hour;", "says 1 ^x;", "says 1 ^not 1;", "says hour ^hour;", "says (1) ^oil;", "votes lean ^law 1 1 1;");
    }

    /** "5 a second 'clock', 'says', 'votes'". */
    private static void secondOnes() {
        faults(5, "clock 1 1 1;^clock 1 1 1;", "says 1;^says 1;", "votes 1;^votes 1;", "clock 1 1 1;says 1;votes 1;\n ^clock", "votes 1;clock 1 1 1;says 1;^votes", "says 1;votes 1;law 1 1 1;^says ?", "clock 1 1 1;^clock 100 1 1;");
        right("clock 1 1 1;says 1;votes 1;", "votes 1;says 1;clock 1 1 1;", "alderman 1 1;alderman 1 1;law 1 1 1;law 1 1 1;");
    }

    /** "the text's length where it ends too soon": each TOKEN of a line may be the last one. */
    private static void endsTooSoon() {
        String[][] lines = {{"clock", "1", "2", "3", ";"}, {"alderman", "-", "1", "2", ";"}, {"law", "1", "2", "-", "3", ";"}, {"feast", "1", "2", "3", ";"}, {"toll", "1", "2", "3", ";"}, {"says", "1", "+", "(", "2", ")", ";"},
            {"votes", "not", "lean", "<", "3", "and", "joy", ";"}};
        for (String[] line : lines) {
            StringBuilder text = new StringBuilder();
            for (int i = 0; i < line.length - 1; i++) {
                text.append(line[i]);
                fault(1, text + "^");
                text.append(' ');
                fault(1, text + "^");
                fault(1, text + "\n \n^");
            }
            right(text + ";");
        }
        fault(1, "law 1 1 1;law 1 1 1 behind^");
        fault(1, "law 1 1 1;law 1 1 1 behind 0^");
        CuckooMayor x = new CuckooMayor();
        int[] kinds = {0, 1, 1, 1, 1, 1, 1, 1, 1, 1, 1, 1, 1, 1, 1, 1, 0};
        int[] places = {-1, 0, 0, 0, 0, 5, 6, 7, 8, 9, 10, 11, 12, 13, 14, 15, -1};
        for (int n = 0; n < kinds.length; n++) {
            int many = n;
            Check.feed(x, "clock 11 22 333;");
            due("the first " + n + " bytes", kinds[n], () -> x.borough(many));
            due("their FAULT's place", places[n], x::fault);
        }
        Check.feed(x, "says 12345;");
        due("a NUMBER cut off behind its 4th digit", 1, () -> x.borough(9));
        due("at the text's length", 9, x::fault);
        Check.feed(x, "says 12345;");
        due("a NUMBER cut off behind its 5th digit", 2, () -> x.borough(10));
        due("at its first byte", 5, x::fault);
        String full = "says " + "1+".repeat(347) + "1";
        due("a text of 700 bytes", 700, () -> full.length());
        due("ends too soon", 1, () -> Check.tell(x, full));
        due("at 700", 700, x::fault);
    }

    /** "FAULTS, the first along the text". */
    private static void firstAlongTheText() {
        faults(1, "^x clock 100 1 1;", "clock ^x;clock 1 1 1;", "says 1;law 1 1 ^x;says 1;");
        faults(2, "clock ^100 x", "alderman ^10 10;", "law ^25 100 10 behind 5;", "law 1 ^100 10;", "says ((((((^1;x");
        faults(3, "says ^lean x;", "law 1 1 1 behind ^0 x", "says 1+^x 12345;");
        faults(5, "says 1;^says x;x", "clock 1 1 1;^clock 100;");
    }

    /** "of one TOKEN the least". */
    private static void leastOfOneToken() {
        faults(1, "says 1 ^12345;", "clock 1 1 1 ^12345;", "^12345", "says 1 ^x;", "says 1 ^says 1;", "clock 1 1 1 ^clock", "law 1 1 1 ^99999;");
        faults(2, "law 1 1 1 behind ^12345;", "says ((((((^x", "says ((((((^lean", "votes ((((((^12345", "says ((((((^not");
    }

    /** Promise 3: "all anew": what a FAULT broke off is not in the way of the next text. */
    private static void brokenOff() {
        CuckooMayor x = new CuckooMayor();
        String[] broken = {"clock 1 1 1;says 1;votes 1;x", "says 1+(2*(3<(4 and (", "says not not not not not not x", "votes ((((((1", "alderman1 1;".repeat(8), "law0 0 0;".repeat(11), "law 1 1 1;law 1 1 1 behind 9;"};
        String whole = "clock 5 6 7;alderman 1 1;law 1 1 1;law 2 2 2;says not not not not not not (((((5)))));votes not not not not not not 4;";
        for (String text : broken) {
            for (int i = 0; i < 15; i++) Check.holds("a FAULT of " + text, Check.tell(x, text) > 0);
            due("whole behind " + text, 0, () -> Check.tell(x, whole));
            due("one ALDERMAN", 1, () -> x.count(0));
            due("two MOTIONS", 2, () -> x.count(1));
            due("which follow none", -1, () -> x.motion(1, 4));
            due("SAYS", 1, () -> x.saying(1));
            due("VOTES", 1, () -> x.votes(0, 1));
        }
    }

    /** Promise 3: "all anew": a rule gives the same behind each other text, whole or broken off, as in a new object. */
    private static void rulesOneBehindTheOther() {
        String[] rules = {"5", "not 5", "not not 5", "not not not 0", "4+5", "4<5", "3=3", "0 or not 0", "7 and not 0", "(2+3)*4", "20-(not (1<2))", "9/(1 or 0)", "2*(3+(4-1))"};
        int[] given = {5, 0, 1, 1, 9, 1, 1, 1, 1, 20, 20, 9, 12};
        for (int i = 0; i < rules.length; i++) {
            for (int j = 0; j < rules.length; j++) {
                int first = i;
                int second = j;
                CuckooMayor x = Check.town("says " + rules[i] + ";");
                due("SAYS " + rules[i], given[first], () -> x.saying(1));
                Check.tell(x, "says " + rules[j] + ";");
                due("SAYS " + rules[j] + " behind " + rules[i], given[second], () -> x.saying(1));
                Check.tell(x, "alderman 0 0;law 0 0 0;votes " + rules[i] + ";says " + rules[j] + ";");
                due("VOTES " + rules[i], given[first] > 0 ? 1 : 0, () -> x.votes(0, 0));
                due("SAYS " + rules[j] + " behind VOTES " + rules[i], given[second], () -> x.saying(1));
                Check.tell(x, "says " + rules[i]);
                Check.tell(x, "alderman 0 0;law 0 0 0;votes " + rules[j] + ";");
                due("VOTES " + rules[j] + " behind a text that ends too soon", given[second] > 0 ? 1 : 0, () -> x.votes(0, 0));
            }
        }
    }

    /** EXPR, AND, NOT, SUM, PRODUCT: which of two operators is done first, "from the left" of like ones. */
    private static void strengths() {
        String[] operators = {" or ", " and ", "<", "=", "+", "-", "*", "/"};
        int[] strengths = {1, 2, 3, 3, 4, 4, 5, 5};
        int[][] numbers = {{7, 2, 3}, {0, 0, 1}, {1, 0, 0}, {2, 3, 1}, {9, 9, 2}, {0, 5, 0}, {1, 1, 1}, {6, 4, 2}, {3, 3, 0}};
        for (int i = 0; i < operators.length; i++) {
            for (int j = 0; j < operators.length; j++) {
                for (int[] n : numbers) {
                    String bare = n[0] + operators[i] + n[1] + operators[j] + n[2];
                    boolean laterFirst = strengths[j] > strengths[i];
                    String grouped = laterFirst ? n[0] + operators[i] + "(" + n[1] + operators[j] + n[2] + ")" : "(" + n[0] + operators[i] + n[1] + ")" + operators[j] + n[2];
                    if (strengths[i] == 3 && strengths[j] == 3) fault(1, "says " + n[0] + operators[i] + n[1] + "^" + operators[j] + n[2] + ";");
                    else says(1, "(" + bare + ")=(" + grouped + ")");
                }
            }
            for (int[] n : numbers) {
                String bare = "not " + n[0] + operators[i] + n[1];
                String grouped = strengths[i] > 2 ? "not (" + n[0] + operators[i] + n[1] + ")" : "(not " + n[0] + ")" + operators[i] + n[1];
                says(1, "(" + bare + ")=(" + grouped + ")");
            }
        }
        says(3, "9-2*3");
        says(7, "9-8/4");
        says(5, "2*3-1");
    }

    /** "From the left; ints that wrap, / cut down to 0, by 0 gives 0". */
    private static void sums() {
        says(4, "9-3-2");
        says(8, "9-3+2");
        says(2, "24/4/3");
        says(18, "24/4*3");
        says(16, "9*7/4+1");
        says(7, "1+2*3");
        says(9, "(1+2)*3");
        says(3, "7/2");
        says(0, "1/2");
        says(7, "10+(0-7)/2");
        says(7, "10+7/(0-2)");
        says(13, "10+(0-7)/(0-2)");
        says(10, "10+(0-1)/2");
        says(0, "5/0");
        says(0, "0/0");
        says(9, "9+(0-5)/0");
        says(9, "9+5/(2-2)");
        // 46341 times itself is the first square above the highest int, 46340 times itself the last one below it
        says(1, "(9999*4+6344)*(9999*4+6344)=(9999*4+6344)*(9999*4+6344) and 0<(9999*4+6344)*(9999*4+6344)");
        says(1, "(9999*4+6345)*(9999*4+6345)<0");
        // 2147483647 is 2048*1024*1023+2048*1023+2047
        String most = "(2048*1024*1023+2048*1023+2047)";
        says(1, "0<" + most);
        says(1, most + "+1<0");
        says(1, "0-" + most + "-1<0");
        says(1, "0<0-" + most + "-2");
        says(1, "(" + most + "+1)/(0-1)<0");
        says(1, "(" + most + "+1)/(0-1)=" + most + "+1");
        says(1, most + "*2=0-2");
        says(1, most + "*" + most + "=1");
    }

    /** "tests, not, and, or are 1 or 0 (what isn't 0 holds)". */
    private static void tests() {
        says(1, "4<5");
        says(0, "5<5");
        says(0, "6<5");
        says(1, "0-1<0");
        says(0, "4=5");
        says(1, "5=5");
        says(0, "6=5");
        says(1, "not 0");
        for (String held : new String[] {"1", "2", "9999", "(0-1)"}) {
            says(0, "not " + held);
            says(1, held + " and 7");
            says(1, "7 and " + held);
            says(0, held + " and 0");
            says(0, "0 and " + held);
            says(1, held + " or 0");
            says(1, "0 or " + held);
            says(1, held + " or 7");
        }
        says(0, "0 and 0");
        says(0, "0 or 0");
        says(1, "1 or 1 and 0");
        says(0, "0 and 1 or 0");
        says(1, "0 and 0 or 1");
        says(1, "not 0 or 1");
        says(1, "not 1 or 1");
        says(0, "not (1 or 1)");
        says(0, "not 1 and 0");
        says(1, "not (1 and 0)");
        says(1, "not 2<1");
        says(0, "not 1=1");
        says(3, "1+(2<3)+(not 0)");
        faults(1, "says 1<2^<3;", "says 1<2^=3;", "says 1=2^<3;", "says 1=2^=3;", "says 1+1<2*2^<3;", "says not 1<2^<3;", "says (1<2^<3);", "says (1)<(2)^=3;");
        right("says (1<2)<3;", "says 1<(2<3);", "says 1<2 and 2<3;", "says 1<2 or 2=3;", "says not 1<2 and not 2<3;");
    }
}
