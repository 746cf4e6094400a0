import java.nio.charset.StandardCharsets;
import java.util.NoSuchElementException;

/** What the tests share: answers held against those that are due, and texts put on the tape. */
final class Check {
    /** Stands for an exception in the place of an answer. */
    static final long NO_SUCH = Long.MIN_VALUE;
    static final long ILLEGAL = Long.MIN_VALUE + 1;
    static final long ANOTHER = Long.MIN_VALUE + 2;

    static final int LEAST = Integer.MIN_VALUE;
    static final int MOST = Integer.MAX_VALUE;

    interface Call { long answer(); }

    interface Ask { long answer(int number); }

    private static int checks = 0;
    private static int wrong = 0;

    private Check() { }

    private static long got(Call call) {
        try {
            return call.answer();
        } catch (RuntimeException e) {
            return e.getClass() == NoSuchElementException.class ? NO_SUCH : e.getClass() == IllegalArgumentException.class ? ILLEGAL : ANOTHER;
        }
    }

    static void due(String what, long want, Call call) {
        long got = got(call);
        checks++;
        if (got != want) {
            wrong++;
            System.out.println(what + " answered " + told(got) + ", due is " + told(want));
        }
    }

    static void holds(String what, boolean isSo) {
        checks++;
        if (!isSo) {
            wrong++;
            System.out.println("not so: " + what);
        }
    }

    /** The lowest and the highest are taken, whatever is answered; what is just beside them, and far from them, is refused. */
    static void range(String what, int lowest, int highest, long refusal, Ask ask) {
        for (int n : new int[] {lowest, highest}) {
            long got = got(() -> ask.answer(n));
            holds(what + " takes " + n + ", answers " + told(got), got != refusal && got != NO_SUCH && got != ILLEGAL && got != ANOTHER);
        }
        for (int n : new int[] {lowest - 1, highest + 1, LEAST, MOST}) due(what + " refuses " + n, refusal, () -> ask.answer(n));
    }

    /** All that can be asked of what calls change, but for STATUS. */
    static String all(CuckooMayor x) {
        StringBuilder b = new StringBuilder();
        for (int what = 0; what <= 12; what++) b.append(what).append(':').append(x.count(what)).append(' ');
        b.append("fault ").append(x.fault());
        for (int a = 0; a < x.count(0); a++) b.append(" a").append(a).append(' ').append(x.alderman(a, 0)).append(' ').append(x.alderman(a, 1));
        for (int m = 0; m < x.count(1); m++) for (int what = 0; what <= 6; what++) b.append(what == 0 ? " m " : " ").append(x.motion(m, what));
        b.append(" fouled ").append(x.fouled(0)).append(' ').append(x.fouled(1)).append(' ').append(x.fouled(2)).append(" says ").append(x.saying(1));
        return b.toString();
    }

    static String status(CuckooMayor x) {
        return x.count(13) + " " + x.count(14) + " " + x.count(15);
    }

    /** A call that is refused: its answer, and the STATUS that counts it (-1: none); all else stays. */
    static void refused(String what, CuckooMayor x, long answer, int status, Call call) {
        String all = all(x);
        int[] counts = {x.count(13), x.count(14), x.count(15)};
        due(what, answer, call);
        for (int i = 0; i < 3; i++) {
            int want = counts[i] + (i == status ? 1 : 0);
            int which = 13 + i;
            due(what + ": STATUS " + i, want, () -> x.count(which));
        }
        holds(what + ": all stays: " + all + " / " + all(x), all.equals(all(x)));
    }

    /** An ACT that is taken: its answer, one ACT more (40 at most), STATUS as it was; undone, all is as it was. */
    static void act(String what, CuckooMayor x, long answer, Call call) {
        String all = all(x);
        String status = status(x);
        int acts = x.count(10);
        due(what, answer, call);
        due(what + ": ACTS", Math.min(40, acts + 1), () -> x.count(10));
        holds(what + ": STATUS stays", status.equals(status(x)));
        if (acts < 40) {
            x.image();
            due(what + ": undone", acts, x::undo);
            holds(what + ": as it was: " + all + " / " + all(x), all.equals(all(x)));
            x.restore();
        }
    }

    private static String told(long answer) {
        return answer == NO_SUCH ? "NoSuchElementException" : answer == ILLEGAL ? "IllegalArgumentException" : answer == ANOTHER ? "another exception" : Long.toString(answer);
    }

    /** Puts a text on the empty tape, with blanks behind it; answers its length. */
    static int feed(CuckooMayor x, String text) {
        byte[] bytes = text.getBytes(StandardCharsets.ISO_8859_1);
        for (int i = 0; i < bytes.length; i += 20) {
            int[] five = new int[5];
            for (int b = 0; b < 20; b++) five[b / 4] = five[b / 4] << 8 | (i + b < bytes.length ? bytes[i + b] & 255 : 32);
            x.feed(five[0], five[1], five[2], five[3], five[4]);
        }
        return bytes.length;
    }

    static int tell(CuckooMayor x, String text) {
        return x.borough(feed(x, text));
    }

    static CuckooMayor town(String text) {
        CuckooMayor x = new CuckooMayor();
        int fault = tell(x, text);
        if (fault != 0) {
            wrong++;
            System.out.println("FAULT " + fault + " at " + x.fault() + " in: " + text);
        }
        return x;
    }

    static void end() {
        System.out.println(checks + " answers looked at, " + wrong + " not as due");
        if (wrong != 0) System.exit(1);
    }
}
