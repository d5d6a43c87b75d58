import com.sun.management.ThreadMXBean;
import java.lang.management.ManagementFactory;

/** Calls make no objects: all rows come with the object. */
public final class RoomTest {
    private static final Due DUE = new Due();
    private static final ThreadMXBean THREADS = (ThreadMXBean) ManagementFactory.getThreadMXBean();
    private static final long TEXT = Due.packed("old ");

    private static long room() {
        return THREADS.getThreadAllocatedBytes(Thread.currentThread().getId());
    }

    private static YearBaskets full() {
        YearBaskets x = new YearBaskets();
        for (int y = 0; y < 8; y++) {
            for (int g = 0; g < 5; g++) {
                x.price(y, g, 1 + (y * 37 + g * 11) % 9);
                for (int p = 0; p < 3; p++) {
                    x.bought(p, y, g, 1 + (y + g * p) % 3);
                }
            }
        }
        String[] texts = {"mean(at0,mean(at1,mean(at2,mean(at3,mean(at4,at5)))))", "link mean(at0,mean(at1,mean(at2,at3)))",
            "link least(plain,most(sums,least(old,new)))", "back both link root(old,new)", "at 0", "at 1", "sums", "plain"};
        for (String text : texts) {
            Due.numberOf(x, text);
        }
        return x;
    }

    private static long askAll(YearBaskets x, int round) {
        long sum = x.price(round % 8, round % 5, 1 + round % 9);
        sum += x.clash(round % 4) + x.breach(round % 8, 0, 2, 0) + x.keeps(round % 8, 1, 4);
        sum += x.ring(3, -1) + x.need(3, round % 8, 2, 0) + x.chosen(2, 1, round % 8) + x.part(1, 1, 0, round % 8, 0);
        sum += x.worth(1, 0, 0, 7, 0) + x.order(3, 2, 0, 7, 0) + x.drift(0, 1, 1, 6, 1) + x.wage(3, 1, 999, 0, 5);
        sum += x.dearest(2, 0, 6) + x.turn(1, 3, 0, 7, 4, 2, 3, 2) + x.cost(3, 1, 1) + x.goods(0, 1, 2) + x.count(3);
        sum += x.feed(4, TEXT >>> 8 * (round % 2)) + x.fault() + x.number();
        return sum;
    }

    public static void main(String[] args) {
        YearBaskets x = full();
        long sum = 0;
        for (int round = 0; round < 2; round++) {
            sum += askAll(x, round);
        }
        long before = room();
        for (int round = 2; round < 12; round++) {
            sum += askAll(x, round);
        }
        long used = room() - before;
        // The smallest object in each of ten rounds would take 160 bytes.
        DUE.due("room taken by some 200 calls: " + used + " (" + sum + ")", used < 150 ? 1 : 0, 1);
        before = room();
        for (int i = 0; i < 100; i++) {
            sum += new YearBaskets().count(0);
        }
        used = (room() - before) / 100;
        DUE.due("room of one object: " + used + " (" + sum + ")", used < 12000 ? 1 : 0, 1);
        DUE.end("RoomTest");
    }
}
