import com.sun.management.ThreadMXBean;
import java.lang.management.ManagementFactory;

/** All that an object needs is made with it: its calls, the dearest too, take no room of their own. */
public final class RoomTest {
    private static String fullBench() {
        StringBuilder s = new StringBuilder("bands 16;most 24;alike 9;");
        String high = " 31 7 19 43 5 23 47 11 3 29 37 13 41 17 2 9;";
        for (int i = 0; i < 8; i++) {
            s.append("dye ").append((char) ('a' + i)).append(" price ").append(9 - i).append(" fast 3 of");
            s.append(high.substring(0, high.length() - 2)).append(i).append(';');
        }
        s.append("ground g of").append(high).append("ground h of").append(high);
        for (int i = 0; i < 4; i++) {
            s.append("lamp ").append((char) ('a' + i)).append(" of").append(high);
        }
        for (int i = 0; i < 4; i++) {
            s.append("eye ").append((char) ('a' + i)).append(" of 1 2 3 4 5 6 7 8 9 1 2 3 4 5 6 7;");
        }
        for (int i = 0; i < 8; i++) {
            s.append("good ").append((char) ('a' + i)).append(" on g of 2 2 2 2 2 2 2 1;");
        }
        return s.toString();
    }

    private static void dearCalls(DyeLamps x) {
        x.ask(0, 1, 11, 8);
        x.match(15, true);
        x.nearest(15, true);
        x.trick(0, 1, false);
        x.ask(0, 1, 6, 8);
        x.best(15, true);
        x.pick(0);
        x.betray(0, 1, false);
        x.look(0, 0, 5, 9999);
        x.agree(0);
        x.agrees(0, 0);
        x.next(0, -1);
        x.drop(0, 1);
        x.days(1000);
        x.image(0);
        x.back(0);
    }

    public static void main(String[] args) {
        ThreadMXBean room = (ThreadMXBean) ManagementFactory.getThreadMXBean();
        long self = Thread.currentThread().getId();
        String text = fullBench();
        int[][] numbers = Texts.numbers(text);
        DyeLamps x = new DyeLamps();
        long start = System.nanoTime();
        long before = room.getThreadAllocatedBytes(self);
        for (int[] n : numbers) {
            x.feed(n[0], n[1], n[2], n[3], n[4]);
        }
        x.end(text.length());
        int goods = x.bench();
        for (int i = 0; i < 10; i++) {
            dearCalls(x);
        }
        long taken = room.getThreadAllocatedBytes(self) - before;
        long made = room.getThreadAllocatedBytes(self);
        DyeLamps other = new DyeLamps();
        made = room.getThreadAllocatedBytes(self) - made;
        System.out.println(goods + " goods, old " + x.old() + ", fault " + x.fault(0) + "; calls took " + taken
                + " bytes, a new object " + made + "; " + (System.nanoTime() - start) / 1000000 + " ms");
        // A few bytes are left to the measuring itself.
        if (goods != 8 || other.old() != 0 || taken > 1000 || made > 1000000) {
            System.exit(1);
        }
    }
}
