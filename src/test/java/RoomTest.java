import com.sun.management.ThreadMXBean;
import java.lang.management.ManagementFactory;
import java.util.Random;

/** What a run may cost: no call throws for any arguments, and a run of 512 calls makes few objects. */
final class RoomTest {
    private static final int[] ODD = {
        Integer.MIN_VALUE, Integer.MIN_VALUE + 1, -61, -2, -1, 0, 1, 2, 3, 4, 5, 6, 19, 20, 21, 40, 41, 59, 60, 61,
        1000, 1001, Integer.MAX_VALUE - 1, Integer.MAX_VALUE};

    /** 64 KiB for a new object and 128 bytes a call: a hundredth of the room that all calls of a run have. */
    private static final long ROOM = 65536 + 512 * 128;

    public static void main(String[] args) {
        nothingIsThrown();
        beyondTheLastCall();
        room(3);
        room(5);
        Due.end();
    }

    private static void nothingIsThrown() {
        Random random = new Random(7);
        for (int run = 0; run < 300; run++) {
            HerdMasters herd = new HerdMasters(random.nextBoolean() ? 5 : 3);
            int answered = 0;
            for (int call = 0; call < 512; call++) {
                oddCall(herd, random);
                answered++;
            }
            Due.is("calls that answered", answered, 512);
            Due.is("agree", herd.agree(), true);
        }
    }

    private static int odd(Random random) {
        return ODD[random.nextInt(ODD.length)];
    }

    private static int some(Random random) {
        return random.nextInt(4) == 0 ? odd(random) : random.nextInt(3);
    }

    private static void oddCall(HerdMasters herd, Random random) {
        switch (random.nextInt(10)) {
            case 0: herd.link(some(random), some(random), random.nextInt(4) != 0); break;
            case 1: herd.up(some(random), random.nextInt(4) != 0); break;
            case 2: herd.change(some(random), odd(random)); break;
            case 3: herd.told(odd(random), odd(random)); break;
            case 4: herd.log(some(random), odd(random), odd(random)); break;
            case 5: herd.task(some(random), odd(random), odd(random)); break;
            case 6: herd.worker(some(random), odd(random), odd(random)); break;
            case 7: herd.used(some(random), odd(random)); break;
            case 8: herd.count(odd(random)); break;
            default:
                herd.order(some(random), some(random), 1 + random.nextInt(1000), random.nextInt(9),
                    odd(random), odd(random), odd(random), odd(random), 40);
        }
    }

    private static void beyondTheLastCall() {
        HerdMasters herd = new HerdMasters(5);
        Random random = new Random(11);
        for (int call = 0; call < 100000; call++) {
            oddCall(herd, random);
        }
        Due.is("it answers still", herd.count(0), 5);
    }

    private static void room(int n) {
        ThreadMXBean threads = (ThreadMXBean) ManagementFactory.getThreadMXBean();
        long before = threads.getCurrentThreadAllocatedBytes();
        HerdMasters herd = new HerdMasters(n);
        for (int call = 0; call < 512; call++) {
            herd.order(0, call % 4, 1 + call, call < 4 ? 0 : call < 10 ? 1 : call < 30 ? 2 : 3, call % 4, 10, call % 4, -1, 40);
            herd.change(0, 40);
            herd.agree();
        }
        long made = threads.getCurrentThreadAllocatedBytes() - before;
        Due.is("a run with " + n + " masters made " + made + " bytes, at most " + ROOM, made <= ROOM, true);
    }
}
