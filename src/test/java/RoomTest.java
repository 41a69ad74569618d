import java.lang.management.ManagementFactory;
import java.nio.charset.StandardCharsets;

/** All calls of a run live in one room: an object may be small when it is made, and calls make nothing. */
public final class RoomTest extends Sheet {
    private static final int CONSTRUCTOR_BYTES = 64_000;
    private static final int IMAGE_BYTES = 8_000;
    private static final String SEA = "sea 6;current 0 1 takes 1;current 1 2 takes 1;current 2 3 takes 1;"
        + "current 3 4 takes 1;current 4 5 takes 1;current 5 0 takes 1;current 0 2 takes 3;current 1 3 takes 3;"
        + "current 2 4 takes 3;current 3 5 takes 3;person at 0;person at 1;person at 2;person at 3;person at 4;"
        + "person at 5;shell 0 by 5;shell 1 by 4;shell 2 by 3;shell 3;shell 4;shell 5;shell 0;shell 1 by 0;"
        + "sounds: beach * hour;open: hour < 20 or takes > 1;listens: words < 7 or hour > 3;";
    /** What the measuring itself may take, all in all. */
    private static final int MEASURING_BYTES = 2_000;
    private static final com.sun.management.ThreadMXBean THREADS =
        (com.sun.management.ThreadMXBean) ManagementFactory.getThreadMXBean();
    private static long sum = 0;

    private static long allocated() {
        return THREADS.getCurrentThreadAllocatedBytes();
    }

    public static void main(String[] args) {
        about("room");
        byte[] bytes = SEA.getBytes(StandardCharsets.ISO_8859_1);
        for (int round = 0; round < 3; round++) {
            allocated();
            long before = allocated();
            HallShells x = new HallShells();
            long made = allocated() - before;
            calls(x, bytes);
            long behind = allocated();
            x.image(0);
            x.image(1);
            long images = allocated() - behind;
            behind = allocated();
            for (int i = 0; i < 8; i++) {
                calls(x, bytes);
                x.image(i % 2);
                sum += x.restore(i % 2);
            }
            long used = allocated() - behind;
            // The first round also loads classes.
            if (round > 0) {
                System.out.println("an object " + made + ", two images " + images + ", 500 calls " + used + " bytes");
                must(made <= CONSTRUCTOR_BYTES, "an object takes " + made + " bytes");
                must(images <= 2 * IMAGE_BYTES, "two images take " + images + " bytes");
                must(used <= MEASURING_BYTES, "calls take " + used + " bytes");
            }
        }
        end("the room is kept to (" + sum + ")");
    }

    private static void calls(HallShells x, byte[] text) {
        for (int i = 0; i < text.length; i += 20) {
            sum += x.feed(four(text, i), four(text, i + 4), four(text, i + 8), four(text, i + 12), four(text, i + 16));
        }
        sum += x.sea(text.length);
        sum += x.whisper(0) + x.whisper(3) + x.give(3, 2) + x.lay(0) + x.gale(3) + x.seed(5) + x.hours(5);
        sum += x.numbers(0, 0, 12) + x.lists(0, 2) + x.write(0, 3, 7) + x.perform(0) + x.judge(0, 3);
        sum += x.days(9, 30) + x.undo(2) + x.comesIn(0, 5) + x.hearsIn(0, 5) + x.heard(1, 99) + x.loudest(99);
        sum += x.hearers(0, 5, 40) + x.far(0, 5) + x.reaches(0, 5) + x.secret(9, 9, 0) + x.widest(48);
        sum += x.shut(0, 5, 48, 1) + x.take(0, 5, 48, 1) + x.needs(0, 48) + x.spies(3, 4, 1) + x.watch(3);
        sum += x.hears(0) + x.mutual() + x.passes(0, 5) + x.gift() + x.fits(0) + x.slips(0, 1) + x.likeliest(0);
        sum += x.look(0) + x.unlike(0, 3) + x.pairs(0) + x.pairs(17) + x.count(5) + x.sound(3, 9) + x.fault(0);
        sum += x.current(0, 3) + x.person(0, 4) + x.shell(0, 1) + x.word(0, 2);
    }

    private static int four(byte[] text, int at) {
        int four = 0;
        for (int i = at; i < at + 4; i++) {
            four = four << 8 | (i < text.length ? text[i] : ' ');
        }
        return four;
    }
}
