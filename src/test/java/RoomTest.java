import java.lang.management.ManagementFactory;

/** All calls of a run live in one room: a new object is small, and no call but one that throws makes anything. */
public final class RoomTest {
    private static final com.sun.management.ThreadMXBean THREADS = (com.sun.management.ThreadMXBean) ManagementFactory.getThreadMXBean();
    private static final String TEXT = "clock 9 60 99;alderman 3 0;alderman -2 4;alderman 1 9;says hour+day;votes lean+joy+heard/4;"
        + "law 2 10 5;feast 3 20 2 behind 0;toll 4 15 -1;law 9 99 9 behind 1;";
    private static int sum = 0;

    public static void main(String[] args) {
        CuckooMayor x = Check.town(TEXT);
        int[] text = {0x636c6f63, 0x6b203920, 0x39302039, 0x393b2020, 0x20202020};
        for (int warm = 0; warm < 3; warm++) run(x, text);
        long from = THREADS.getCurrentThreadAllocatedBytes();
        for (int i = 0; i < 20; i++) run(x, text);
        long made = THREADS.getCurrentThreadAllocatedBytes() - from;
        Check.holds("20 runs of all calls make next to nothing: " + made, made < 4096);
        from = THREADS.getCurrentThreadAllocatedBytes();
        for (int i = 0; i < 10; i++) sum += new CuckooMayor().count(3);
        made = (THREADS.getCurrentThreadAllocatedBytes() - from) / 10;
        Check.holds("a new object stays below 24 KiB: " + made, made < 24576);
        Check.end();
    }

    private static void run(CuckooMayor x, int[] text) {
        x.image();
        for (int i = 0; i < 45; i++) sum += x.hours(1) + x.wind(1) + x.oil(1) + x.spider(1) + x.bribe(0, 1) + x.move(3, 9) + x.see(1 + i, 3);
        x.restore();
        for (int i = 0; i < 16; i++) sum += x.count(i);
        for (int i = 0; i < 3; i++) sum += x.alderman(i, 2) + x.motion(i, 6) + x.when(i) + x.needs(i) + x.heldUp(i) + x.fouled(i) + x.years(i, 96, i);
        for (int i = 0; i < 2; i++) sum += x.then(96, i) + x.fails(i) + x.order(i) + x.hush(96, i) + x.listen(i) + x.moving(2, i) + x.game(2, 3, i);
        sum += x.saying(96) + x.calls(3, 96) + x.toWind(96) + x.toOil(96) + x.passing(96) + x.word(96) + x.idle() + x.allies(0, 1);
        sum += x.votes(1, 3) + x.bought(1, 3) + x.bribery(1, 3) + x.undo() + x.fault();
        x.forget();
        x.feed(text[0], text[1], text[2], text[3], text[4]);
        x.borough(14);
        refill(x);
    }

    private static final int[] BYTES = new int[700];
    static {
        for (int i = 0; i < BYTES.length; i++) BYTES[i] = i < TEXT.length() ? TEXT.charAt(i) : ' ';
    }

    private static void refill(CuckooMayor x) {
        for (int i = 0; i < 200; i += 20) x.feed(four(i), four(i + 4), four(i + 8), four(i + 12), four(i + 16));
        x.borough(TEXT.length());
    }

    private static int four(int at) {
        return BYTES[at] << 24 | BYTES[at + 1] << 16 | BYTES[at + 2] << 8 | BYTES[at + 3];
    }
}
