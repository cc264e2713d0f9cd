import java.lang.management.ManagementFactory;

/** All calls of a run live in one room: the dearest calls make nothing anew. Promise 0 stands for the room here. */
final class RoomTest {
    private static final com.sun.management.ThreadMXBean THREADS =
            (com.sun.management.ThreadMXBean) ManagementFactory.getThreadMXBean();

    public static void main(String[] args) {
        NoThree warm = new NoThree();
        dearCalls(warm, town(), 1);
        long before = bytes();
        NoThree x = new NoThree();
        Due.is(0, "an object's bytes", bytes() - before < 100000);
        int[] text = town();
        before = bytes();
        dearCalls(x, text, 12);
        Due.is(0, "the calls' bytes", bytes() - before < 20000);
        Due.end();
    }

    private static long bytes() {
        return THREADS.getThreadAllocatedBytes(Thread.currentThread().getId());
    }

    private static int[] town() {
        String text = "houses 11;ring 0 1 2 3 4 5 6;ring 7 8 9 10;door 0 7;rule: doors < 5;rule: colours < 4 or halves = 1;"
                + "rule: feast + far * fours - threes < 99 and [ not pairs = 0 or houses > 2 ];     ";
        int[] ints = new int[text.length() / 20 * 5];
        for (int i = 0; i < ints.length * 4; i++) {
            ints[i / 4] = ints[i / 4] << 8 | text.charAt(i);
        }
        return ints;
    }

    private static void dearCalls(NoThree x, int[] text, int times) {
        for (int i = 0; i < times; i++) {
            for (int at = 0; at + 4 < text.length; at += 5) {
                x.feed(text[at], text[at + 1], text[at + 2], text[at + 3], text[at + 4]);
            }
            Due.is(0, "the town is told", x.town(x.count(6)), 7);
            x.image(0);
            x.century(i, 60);
            x.changing(i, 0);
            x.dearness();
            x.teller();
            x.ways(6);
            x.dear();
            x.colour(10);
            x.cure(0);
            x.six(0);
            x.full();
            x.feast(-1);
            x.may(3);
            x.broken(0);
            x.numbers(0, 3, 40);
            x.copy(0);
            x.judge(0, 3);
            x.perform(0);
            x.undo(3);
            for (int h = 0; h < 6; h++) {
                x.leave(0);
            }
            x.mark();
            x.weave();
            x.undo(1);
            x.selves();
            x.alike(0);
            x.grow(11);
            x.restore(0);
        }
    }
}
