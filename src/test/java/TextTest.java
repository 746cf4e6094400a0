/** The language of the texts: FAULTS and their places, what lines tell, what EXPR give (promises 2 to 4). */
public final class TextTest {
    public static void main(String[] args) {
        right();
        wrongPlace();
        tooMuch();
        notTold();
        second();
        anew();
        sums();
        lines();
        tape();
        Check.end();
    }

    /** A text in which ^ marks the place of the FAULT. */
    private static void fault(int kind, String marked) {
        int place = marked.indexOf('^');
        String text = marked.substring(0, place) + marked.substring(place + 1);
        CuckooMayor x = Check.town("clock 1 2 3;alderman 4 5;law 6 7 8;");
        Check.due("borough of: " + text, kind, () -> Check.tell(x, text));
        Check.due("fault of: " + text, place, x::fault);
        Check.due("count(13) behind: " + text, 1, () -> x.count(13));
        Check.due("count(3) behind: " + text, 1, () -> x.count(3));
        Check.due("alderman(0, 0) behind: " + text, 4, () -> x.alderman(0, 0));
        Check.due("motion(0, 1) behind: " + text, 6, () -> x.motion(0, 1));
        Check.due("count(12) behind: " + text, 0, () -> x.count(12));
    }

    private static void right(String text) {
        CuckooMayor x = new CuckooMayor();
        Check.due("borough of: " + text, 0, () -> Check.tell(x, text));
        Check.due("fault of: " + text, -1, x::fault);
    }

    private static void right() {
        right("");
        right("  \n ");
        right("clock 0 0 0;");
        right("clock99 99 999;");
        right("clock 0001 0099 0999 ;");
        right("\nclock\n1\n2\n3\n;\n");
        right("alderman -0 0;");
        right("alderman - 9 9;");
        right("alderman1 1;".repeat(7));
        right("law0 0 0;".repeat(10));
        right("feast 24 99 -9;toll 24 99 9 behind 0;");
        right("law 0 0 0;law 0 0 0 behind 0000;law 0 0 0 behind 1;");
        right("says (((((1)))));");
        right("says (((((1+(2-2)*0+1)))));".replace("(2-2)", "2"));
        right("says not not not not not not 1;");
        right("says not not not not not not (not 1 and not not not not not not 1);");
        right("says not 1 or not 1 or not 1 or not 1 or not 1 or not 1 or not 1 or not 1;");
        right("says 9999;");
        right("says 0009;");
        right("says hour+oil+weight+day;votes heard+lean+cost+joy+kind+passed;");
        right("votes 1;says 1;clock 1 1 1;");
        right("says 1and 2or 3;");
        right("votes not not not 1;says not not not not not not 1;");
        right("says (1<2)=(3<4);");
        right("says 1" + "+1".repeat(346) + ";");
    }

    private static void wrongPlace() {
        for (String text : new String[] {"^x", "^5;", "^;", "^behind 1;", "^not;", "^Clock 1 1 1;", "clock^\t1 1 1;", "clock 1 1 1;^\r", "clock 1 1 1;\n^\u00e9",
            "^\0", "^\u00ff", "clock^", "clock ^", "clock 1 2^", "clock 1 2 3^", "clock 1 2 3 \n ^", "clock 1 2 ^;", "clock ^-1 2 3;", "clock 1 2 3 ^4;", "clock 1 2 3;;".replace(";;", ";^;"),
            "^clocks 1 2 3;", "^lawfeast 1 1 1;", "alderman 1 ^-1;", "alderman -^-1 1;", "alderman ^+1 0;", "alderman ^x 0;", "alderman 1 0 ^12345;", "law 1 1 1 ^after 0;",
            "law 1 1 1 behind ^x;", "law 1 1 1 behind ^-1;", "law 1 1 1 behind^", "law 1 1 1 ^1;", "law ^-1 1 1;", "law 1 ^-1 1;", "toll ^;", "law 1 1 1;law 1 1 1 behind 0 ^behind 0;",
            "says^", "says ^;", "says ^-1;", "says ^+1;", "says ^)", "says 1 ^2;", "says 1 ^12345;", "says 1 ^(2);", "says hour ^oil;", "says 1 ^not 2;", "says 1 < 2 ^< 3;", "says 1 = 2 ^< 3;",
            "says 1 < 2 ^= 3;", "says not 1 < 2 ^< 3;", "says 1 + 2 < 3 * 4 ^= 5;", "says (1^;", "says (1^", "says 1^);", "says (^);", "says 1+^+2;", "says 1*^;", "says 1 and ^;", "says not ^;",
            "says not ^-1;", "says hour^%2;", "says hour^", "says ((1)^;", "says 1;^)", "says ((((((^)", "says ((((((^+1", "says ((((((^", "says ((((((^;", "votes lean^", "votes lean ^law",
            "says 1 ^clock;", "says 1 ^x;", "says not not not not not not ^<"}) {
            fault(1, text);
        }
    }

    private static void tooMuch() {
        for (String text : new String[] {"clock ^100 1 1;", "clock 1 ^100 1;", "clock 1 1 ^1000;", "clock ^12345 1 1;", "clock ^00001 1 1;", "clock 1 1 ^99999999999999999999;", "clock ^100 x",
            "alderman ^10 1;", "alderman -^10 1;", "alderman 1 ^10;", "law ^25 0 0;", "feast 0 ^100 0;", "toll 0 0 ^10;", "toll 0 0 -^10;", "law 0 0 0; law 0 0 0 behind ^12345;", "law 0 0 0; law 0 0 0 behind ^00000;",
            "alderman1 1;".repeat(7) + "^alderman 1 1;", "alderman1 1;".repeat(7) + " ^alderman x", "law0 0 0;".repeat(10) + "^law 1 1 1;", "law0 0 0;feast0 0 0;toll0 0 0;law0 0 0;law0 0 0;".repeat(2) + "^toll 1 1 1;",
            "says ^10000;", "says 1+^00000;", "votes (1<^54321);", "says ((((((^1))))));", "says ((((((^12345", "says ((((((^hour", "says ((((((^(", "says ((((((^zzz", "says ((((((^not 1", "says ((((((^and", "says 1+(2*(3<(4=(5 and (6 or (^7",
            "says not not not not not not ^not 1;", "says 1 and not not not not not not ^not 1;", "says (not not not not not not ^not 1);", "votes not not not not not not ^not x"}) {
            fault(2, text);
        }
    }

    private static void notTold() {
        for (String text : new String[] {"says ^lean;", "says ^heard", "votes ^hour;", "votes ^oil", "votes ^weight;", "votes ^day;", "says ^passed;", "says ^x;", "says ^and;", "says ^or 1;", "says ^clock;", "says ^behind;", "says 1 + ^not 1;", "says 1 < ^not 1;",
            "says 2 * ^not 1;", "says not ^and", "says (^or", "votes 1 and ^or", "says not not not not not not ^x", "law 1 1 1 behind ^0;", "law 0 0 0; law 0 0 0 behind ^1;", "law 0 0 0; law 0 0 0 behind ^9;",
            "law 0 0 0 behind ^9999;", "law 0 0 0 behind ^10;"}) {
            fault(3, text);
        }
    }

    /** What a FAULT broke off is not in the way of the next text. */
    private static void anew() {
        CuckooMayor x = new CuckooMayor();
        Check.due("broken off", 1, () -> Check.tell(x, "says 1+(2<(3*("));
        Check.due("whole", 0, () -> Check.tell(x, "says (((((1+2*3)))));"));
        Check.due("its number", 7, () -> x.saying(1));
        Check.due("broken off behind 'not'", 2, () -> Check.tell(x, "says not not not not not not not"));
        Check.due("whole with 'not'", 0, () -> Check.tell(x, "says not not not not not not 5+5;"));
        Check.due("its number", 1, () -> x.saying(1));
        Check.due("broken off behind all lines", 1, () -> Check.tell(x, "clock 1 1 1;alderman 1 1;law 1 1 1;says 1;votes 1;x"));
        Check.due("all lines", 0, () -> Check.tell(x, "clock 2 2 2;alderman 2 2;law 2 2 2;says 2;votes 2;"));
        Check.due("one ALDERMAN", 1, () -> x.count(0));
        Check.due("one MOTION", 1, () -> x.count(1));
    }

    private static void second() {
        for (String text : new String[] {"clock 1 1 1; ^clock 1 1 1;", "clock 1 1 1;alderman 1 1;^clock x", "says 1; ^says 2;", "votes 1; ^votes 2;", "says hour;votes lean;^says"}) {
            fault(5, text);
        }
    }

    private static void says(int due, String expr) {
        Check.due("says " + expr, due, () -> Check.town("says " + expr + ";").saying(1));
    }

    private static void sums() {
        says(14, "2+3*4");
        says(20, "(2+3)*4");
        says(12, "20-5-3");
        says(4, "10-2*3");
        says(7, "3*5/2");
        says(9, "10-3/2");
        says(1, "1+(not 1)");
        says(3, "1+(2<3 and not 0)*2");
        says(6, "20/3");
        says(2, "20/3/3");
        says(18, "20/3*3");
        says(0, "7/0");
        says(5, "7/(3-3)+5");
        says(7, "(0-7)/2+10");
        says(0, "0-5");
        says(24, "25");
        says(24, "9999");
        says(1, "not 0");
        says(0, "not 5");
        says(1, "not not 5");
        says(1, "1<2");
        says(0, "2<2");
        says(1, "2=2");
        says(0, "2=3");
        says(1, "1+1=2");
        says(0, "not 1<2");
        says(1, "not 3<2");
        says(1, "5 and 3");
        says(0, "5 and 0");
        says(1, "5 or 0");
        says(1, "0 or 7");
        says(0, "0 or 0");
        says(1, "1 or 0 and 0");
        says(0, "(1 or 0) and 0");
        says(0, "not 0 and 0");
        says(1, "not (0 and 0)");
        says(1, "0-1 and 1");
        says(1, "9999*9999*22<0");
        says(1, "2048*2048*512/(0-1)<0");
        // as much as may wait at once, in an EXPR within 5 others
        String level = "0 or 1 and not not not not not not 0 < 0 + 1 * ";
        says(1, (level + "(").repeat(5) + level + "7" + ")".repeat(5));
        says(0, (level + "(").repeat(5) + level + "0" + ")".repeat(5));
        says(12, "hour");
        says(20, "oil");
        says(24, "weight");
        says(0, "day");
        says(21, "(1<2)*20+(2<1)*3+(3=3)");
    }

    private static void lines() {
        CuckooMayor x = Check.town("toll 7 8 -9;clock 1 2 3;alderman -4 5;feast 10 11 9 behind 0;alderman 6 7;law 0 0 0;");
        long[] counts = {2, 3, 0, 1, 2, 0, 3, 0, 0, 2, 0, 0, 0, 0, 0, 0};
        for (int i = 0; i < counts.length; i++) {
            int what = i;
            Check.due("count(" + i + ") of lines", counts[i], () -> x.count(what));
        }
        long[][] aldermen = {{-4, 5}, {6, 7}};
        long[][] motions = {{2, 7, 8, -9, -1, 0, 0}, {1, 10, 11, 9, 0, 0, 1}, {0, 0, 0, 0, -1, 0, 0}};
        for (int i = 0; i < 2; i++) for (int w = 0; w < 2; w++) { int a = i, b = w; Check.due("alderman(" + a + ", " + b + ")", aldermen[i][w], () -> x.alderman(a, b)); }
        for (int i = 0; i < 3; i++) for (int w = 0; w < 7; w++) { int a = i, b = w; Check.due("motion(" + a + ", " + b + ")", motions[i][w], () -> x.motion(a, b)); }
    }

    private static void tape() {
        CuckooMayor x = new CuckooMayor();
        for (int i = 1; i <= 35; i++) {
            int many = 20 * i;
            Check.due("feed to " + many, many, () -> x.feed(0x20202020, 0x20202020, 0x20202020, 0x20202020, 0x20202020));
        }
        Check.due("feed beyond 700", -1, () -> x.feed(0, 0, 0, 0, 0));
        Check.due("count(12) of a full tape", 700, () -> x.count(12));
        Check.due("borough(701)", Check.ILLEGAL, () -> x.borough(701));
        Check.due("borough(-1)", Check.ILLEGAL, () -> x.borough(-1));
        Check.due("borough(the least int)", Check.ILLEGAL, () -> x.borough(Integer.MIN_VALUE));
        Check.due("count(12) still", 700, () -> x.count(12));
        Check.due("borough(700)", 0, () -> x.borough(700));
        Check.due("count(12) of an empty tape", 0, () -> x.count(12));
        Check.due("borough(1) without a tape", Check.ILLEGAL, () -> x.borough(1));
        // of each number the highest byte first: "clock 7 8 9;" and what is no text behind it
        Check.due("feed clock", 20, () -> x.feed(0x636c6f63, 0x6b203720, 0x3820393b, 0x80ffff00, 0x41414141));
        Check.due("borough of the first twelve", 0, () -> x.borough(12));
        Check.due("OIL by bytes", 7, () -> x.count(3));
        Check.due("WEIGHT by bytes", 8, () -> x.count(4));
        Check.due("TREASURY by bytes", 9, () -> x.count(6));
        Check.due("the rest of the tape is gone", 0, () -> x.count(12));
        Check.due("feed with a byte that is none", 20, () -> x.feed(0x636c6f63, 0x6b203720, 0x3820393b, 0x80ffff00, 0x41414141));
        Check.due("borough(13)", 1, () -> x.borough(13));
        Check.due("its place", 12, x::fault);
        Check.due("borough(1) throws", Check.ILLEGAL, () -> x.borough(1));
        Check.due("the place stays", 12, x::fault);
        Check.due("borough(0)", 0, () -> x.borough(0));
        Check.due("no place", -1, x::fault);
        Check.due("OIL without a clock", 20, () -> x.count(3));
    }
}
