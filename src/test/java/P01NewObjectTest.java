/** Promise 1: five masters, if n is 5, else three; and all that a new object has. */
final class P01NewObjectTest {
    public static void main(String[] args) {
        int[] asked = {3, 5, 0, 1, 2, 4, 6, 7, -5, -1, 50, Integer.MAX_VALUE, Integer.MIN_VALUE};
        for (int n : asked) {
            isNew("new HerdMasters(" + n + ")", new HerdMasters(n), n == 5 ? 5 : 3);
        }
        objectsAreApart();
        Due.end();
    }

    private static void isNew(String name, HerdMasters herd, int size) {
        Due.is(name + " masters", herd.count(0), size);
        Due.is(name + " messages", herd.count(1), 0);
        Due.is(name + " answers", herd.count(2), 0);
        Due.is(name + " greatest view", herd.count(3), 0);
        Due.is(name + " agrees", herd.agree(), true);
        for (int m = 0; m < size; m++) {
            for (int what = 0; what < 4; what++) {
                Due.is(name + " told(" + m + ", " + what + ")", herd.told(m, what), 0);
            }
            Due.is(name + " is up", herd.told(m, 4), 1);
            Due.is(name + " has no order", herd.log(m, 0, 0), HerdMasters.BAD);
            Due.is(name + " has no task", herd.task(m, 0, 0), HerdMasters.BAD);
            Due.is(name + " has no worker", herd.worker(m, 0, 0), HerdMasters.BAD);
            Due.is(name + " uses nothing", herd.used(m, 3), 0);
        }
        Due.is(name + " has no further master", herd.told(size, 0), HerdMasters.BAD);
        Due.is(name + " master 0 leads, all are linked", herd.order(0, 0, 1, 1, 5, 0, 0, 0, 40), 0);
        Due.is(name + " all answered", herd.count(1), 2 * (size - 1));
    }

    private static void objectsAreApart() {
        HerdMasters one = new HerdMasters(3);
        HerdMasters other = new HerdMasters(3);
        one.up(1, false);
        one.order(0, 0, 1, 1, 5, 0, 0, 0, 40);
        Due.is("the other's master is up", other.told(1, 4), 1);
        Due.is("the other's log is empty", other.told(0, 2), 0);
        Due.is("the other brought nothing", other.count(1), 0);
    }
}
