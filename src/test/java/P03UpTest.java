/** Promise 3: up. */
final class P03UpTest {
    public static void main(String[] args) {
        wrongInputs();
        downIsNotReached();
        keepsWhatItHas();
        Due.end();
    }

    private static void wrongInputs() {
        HerdMasters three = new HerdMasters(3);
        HerdMasters five = new HerdMasters(5);
        int[] none = {-1, 3, 4, 5, Integer.MIN_VALUE, Integer.MAX_VALUE};
        for (int m : none) {
            Due.is("up(" + m + ", false)", three.up(m, false), false);
            Due.is("up(" + m + ", true)", three.up(m, true), false);
        }
        Due.is("five: up(4, false)", five.up(4, false), true);
        Due.is("five: up(5, false)", five.up(5, false), false);
    }

    private static void downIsNotReached() {
        HerdMasters herd = new HerdMasters(3);
        Due.is("up(1, false)", herd.up(1, false), true);
        Due.is("up(1, false) again", herd.up(1, false), true);
        Due.is("1 is down", herd.told(1, 4), 0);
        Due.is("2 is up", herd.told(2, 4), 1);
        Due.is("order with 2", herd.order(0, 0, 1, 1, 5, 0, 0, 0, 40), 0);
        Due.is("1 not told", herd.told(1, 2), 0);
        Due.is("two messages", herd.count(1), 2);
        herd.up(2, false);
        Due.is("alone", herd.order(0, 0, 2, 1, 5, 0, 0, 0, 40), HerdMasters.OPEN);
        Due.is("no message", herd.count(1), 2);
        Due.is("change alone", herd.change(0, 40), HerdMasters.OPEN);
        Due.is("up(1, true)", herd.up(1, true), true);
        Due.is("up(1, true) again", herd.up(1, true), true);
        Due.is("1 is up", herd.told(1, 4), 1);
        Due.is("change with 1", herd.change(0, 40), 6);
    }

    private static void keepsWhatItHas() {
        HerdMasters herd = new HerdMasters(3);
        herd.order(0, 0, 1, 1, 5, 0, 0, 0, 40);
        herd.order(0, 0, 2, 0, 2, 30, 0, 0, 40);
        herd.change(2, 40);
        herd.up(2, false);
        Due.is("its view", herd.told(2, 0), 2);
        Due.is("its last normal view", herd.told(2, 1), 2);
        Due.is("its log", herd.told(2, 2), 2);
        Due.is("its orders done", herd.told(2, 3), 2);
        Due.is("its worker", herd.worker(2, 0, 0), 5);
        Due.is("its order", herd.log(2, 1, 4), 30);
        Due.is("down: order", herd.order(2, 1, 1, 1, 5, 0, 0, 0, 40), HerdMasters.NOT_HERE);
        Due.is("down: change", herd.change(2, 40), HerdMasters.NOT_HERE);
        herd.up(2, true);
        Due.is("it leads on", herd.order(2, 1, 1, 1, 5, 0, 0, 0, 40), 1);
        Due.is("its log then", herd.told(2, 2), 3);
    }
}
