import java.nio.charset.StandardCharsets;
import java.util.NoSuchElementException;

/** What the tests share: answers held against those that are due, and texts put on the tape. */
final class Check {
    /** Stands for an exception in the place of an answer. */
    static final long NO_SUCH = Long.MIN_VALUE;
    static final long ILLEGAL = Long.MIN_VALUE + 1;
    static final long ANOTHER = Long.MIN_VALUE + 2;

    interface Call { long answer(); }

    private static int checks = 0;
    private static int wrong = 0;

    private Check() { }

    static void due(String what, long want, Call call) {
        long got;
        try {
            got = call.answer();
        } catch (RuntimeException e) {
            got = e.getClass() == NoSuchElementException.class ? NO_SUCH : e.getClass() == IllegalArgumentException.class ? ILLEGAL : ANOTHER;
        }
        checks++;
        if (got != want) {
            wrong++;
            System.out.println(what + " answered " + told(got) + ", due is " + told(want));
        }
    }

    static void holds(String what, boolean isSo) {
        checks++;
        if (!isSo) {
            wrong++;
            System.out.println("not so: " + what);
        }
    }

    private static String told(long answer) {
        return answer == NO_SUCH ? "NoSuchElementException" : answer == ILLEGAL ? "IllegalArgumentException" : answer == ANOTHER ? "another exception" : Long.toString(answer);
    }

    /** Puts a text on the empty tape, with blanks behind it; answers its length. */
    static int feed(CuckooMayor x, String text) {
        byte[] bytes = text.getBytes(StandardCharsets.ISO_8859_1);
        for (int i = 0; i < bytes.length; i += 20) {
            int[] five = new int[5];
            for (int b = 0; b < 20; b++) five[b / 4] = five[b / 4] << 8 | (i + b < bytes.length ? bytes[i + b] & 255 : 32);
            x.feed(five[0], five[1], five[2], five[3], five[4]);
        }
        return bytes.length;
    }

    static int tell(CuckooMayor x, String text) {
        return x.borough(feed(x, text));
    }

    static CuckooMayor town(String text) {
        CuckooMayor x = new CuckooMayor();
        int fault = tell(x, text);
        if (fault != 0) {
            wrong++;
            System.out.println("FAULT " + fault + " at " + x.fault() + " in: " + text);
        }
        return x;
    }

    static void end() {
        System.out.println(checks + " answers looked at, " + wrong + " not as due");
        if (wrong != 0) System.exit(1);
    }
}
