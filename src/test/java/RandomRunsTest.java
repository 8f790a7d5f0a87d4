import java.util.List;
import java.util.Random;

/** Long runs of calls, always the same ones, against PlainHerd: every answer, and after each call what a master knows. */
final class RandomRunsTest {
    private static final int RUNS = 200;
    private static final int CALLS = 512;

    private final Random random;
    private final int n;
    private final HerdMasters herd;
    private final PlainHerd plain;
    private final int[] numbers = new int[4];
    private final int trouble;
    private final String name;
    private int calls = 0;

    private RandomRunsTest(int seed) {
        random = new Random(seed);
        n = random.nextBoolean() ? 5 : 3;
        trouble = random.nextInt(12);
        herd = new HerdMasters(n);
        plain = new PlainHerd(n);
        name = "run " + seed + ", call ";
    }

    public static void main(String[] args) {
        for (int seed = 1; seed <= RUNS; seed++) {
            new RandomRunsTest(seed).run();
        }
        Due.end();
    }

    private void run() {
        while (calls < CALLS) {
            int kind = random.nextInt(20);
            if (kind < trouble / 3) {
                links();
            } else if (kind < trouble) {
                changes();
            } else {
                orders();
            }
            look();
        }
    }

    private String next(String call) {
        calls++;
        return name + calls + ": " + call;
    }

    private int master() {
        return random.nextInt(40) == 0 ? random.nextInt(9) - 2 : random.nextInt(n);
    }

    private int messages() {
        int kind = random.nextInt(10);
        return kind < 5 ? 40 : kind < 9 ? random.nextInt(2 * n + 2) : random.nextInt(50) - 4;
    }

    private void links() {
        int a = master();
        int b = master();
        boolean on = random.nextInt(3) != 0;
        if (random.nextBoolean()) {
            Due.is(next("link(" + a + ", " + b + ", " + on + ")"), herd.link(a, b, on), plain.link(a, b, on));
        } else {
            Due.is(next("up(" + a + ", " + on + ")"), herd.up(a, on), plain.up(a, on));
        }
    }

    private void changes() {
        int m = master();
        int messages = messages();
        Due.is(next("change(" + m + ", " + messages + ")"), herd.change(m, messages), plain.change(m, messages));
    }

    private int leader() {
        int best = 0;
        for (int m = 1; m < n; m++) {
            if (herd.told(m, 1) > herd.told(best, 1)) {
                best = m;
            }
        }
        return herd.told(best, 1) % n;
    }

    private void orders() {
        int m = random.nextInt(6) == 0 ? master() : leader();
        int client = random.nextInt(30) == 0 ? random.nextInt(7) - 1 : random.nextInt(4);
        int number = random.nextInt(10) == 0 ? random.nextInt(60) - 1 : numbers[Math.floorMod(client, 4)] + 1;
        if (client >= 0 && client < 4 && number > numbers[client]) {
            numbers[client] = number;
        }
        int[] o = scheduled();
        int messages = messages();
        int got = herd.order(m, client, number, o[0], o[1], o[2], o[3], o[4], messages);
        int want = plain.order(m, client, number, List.of(o[0], o[1], o[2], o[3], o[4]), messages);
        Due.is(next("order(" + m + ", " + client + ", " + number + ", " + o[0] + ", ..)"), got, want);
    }

    private int about(int least, int greatest) {
        return random.nextInt(30) == 0
            ? (random.nextBoolean() ? least - 1 : greatest + 1)
            : least + random.nextInt(greatest - least + 1);
    }

    private int[] scheduled() {
        int kind = random.nextInt(24);
        int task = random.nextInt(12);
        if (kind < 3) {
            return new int[] {0, about(0, 3), random.nextBoolean() ? about(0, 60) : 60, 0, 0};
        } else if (kind < 6) {
            return new int[] {1, about(1, 20), 0, 0, 0};
        } else if (kind < 13) {
            return new int[] {2, about(0, 3), about(1, random.nextBoolean() ? 20 : 5), about(0, 3),
                random.nextInt(3) == 0 ? random.nextInt(21) - 1 : -1};
        } else if (kind < 18) {
            return new int[] {3, 0, 0, 0, 0};
        } else if (kind < 20) {
            return new int[] {4, task, random.nextInt(4) == 0 ? 2 : 1, random.nextInt(), 0};
        } else if (kind < 21) {
            return new int[] {5, task, 0, 0, 0};
        } else if (kind < 22) {
            return new int[] {6, about(0, 3), 0, 0, 0};
        }
        return new int[] {random.nextInt(5) == 0 ? random.nextInt() : 7, task, 0, 0, 0};
    }

    private void look() {
        int m = random.nextInt(n);
        for (int what = 0; what < 5; what++) {
            Due.is(name + calls + ": told(" + m + ", " + what + ")", herd.told(m, what), plain.told(m, what));
        }
        for (int user = 0; user < 4; user++) {
            Due.is(name + calls + ": used(" + m + ", " + user + ")", herd.used(m, user), plain.used(m, user));
        }
        int k = random.nextInt(20);
        for (int what = -1; what < 8; what++) {
            Due.is(name + calls + ": task(" + m + ", " + k + ", " + what + ")", herd.task(m, k, what), plain.task(m, k, what));
            Due.is(name + calls + ": log(" + m + ", " + k + ", " + what + ")", herd.log(m, k, what), plain.log(m, k, what));
            Due.is(name + calls + ": count(" + what + ")", herd.count(what), plain.count(what));
            Due.is(name + calls + ": worker(" + m + ", " + k % 7 + ", " + what + ")",
                herd.worker(m, k % 7, what), plain.worker(m, k % 7, what));
        }
        Due.is(name + calls + ": agree()", herd.agree(), true);
    }
}
