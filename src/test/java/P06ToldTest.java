/** Promise 6: told. */
final class P06ToldTest {
    public static void main(String[] args) {
        wrongInputs();
        eachPart();
        Due.end();
    }

    private static void wrongInputs() {
        HerdMasters herd = new HerdMasters(3);
        int[] none = {-1, 5, 6, Integer.MIN_VALUE, Integer.MAX_VALUE};
        for (int k : none) {
            Due.is("told(0, " + k + ")", herd.told(0, k), HerdMasters.BAD);
            Due.is("told(" + k + ", 4)", herd.told(k, 4), HerdMasters.BAD);
        }
        Due.is("told(3, 0) of three", herd.told(3, 0), HerdMasters.BAD);
        Due.is("told(4, 4) of five", new HerdMasters(5).told(4, 4), 1);
    }

    private static void eachPart() {
        HerdMasters herd = new HerdMasters(3);
        herd.order(0, 0, 1, 1, 5, 0, 0, 0, 40);
        herd.order(0, 0, 2, 1, 5, 0, 0, 0, 40);
        herd.order(0, 0, 3, 1, 5, 0, 0, 0, 1);
        herd.change(2, 40);
        herd.change(1, 1);
        herd.up(2, false);
        told(herd, 0, 4, 2, 3, 2, 1);
        told(herd, 1, 4, 2, 3, 2, 1);
        told(herd, 2, 2, 2, 3, 2, 0);
        herd.up(0, false);
        Due.is("alone", herd.change(1, 40), HerdMasters.OPEN);
        told(herd, 1, 7, 2, 3, 2, 1);
        herd.up(2, true);
        Due.is("with 2", herd.change(1, 40), 10);
        Due.is("order", herd.order(1, 1, 1, 1, 5, 0, 0, 0, 2), 3);
        told(herd, 1, 10, 10, 4, 4, 1);
        told(herd, 2, 10, 10, 4, 2, 1);
        told(herd, 0, 4, 2, 3, 2, 0);
    }

    private static void told(HerdMasters herd, int master, int... due) {
        for (int what = 0; what < due.length; what++) {
            Due.is("told(" + master + ", " + what + ")", herd.told(master, what), due[what]);
        }
    }
}
