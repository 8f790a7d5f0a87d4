/** Promise 7: log. */
final class P07LogTest {
    public static void main(String[] args) {
        HerdMasters herd = new HerdMasters(3);
        herd.order(0, 3, 1000, 2, 11, 12, 13, 14, 40);
        herd.order(0, 1, 7, -9, Integer.MIN_VALUE, Integer.MAX_VALUE, -1, 0, 1);
        int[][] due = {
            {3, 1000, 2, 11, 12, 13, 14},
            {1, 7, -9, Integer.MIN_VALUE, Integer.MAX_VALUE, -1, 0}};
        int[] lengths = {2, 2, 1};
        for (int m = 0; m < 3; m++) {
            for (int k = 0; k < 2; k++) {
                for (int what = 0; what < 7; what++) {
                    int want = k < lengths[m] ? due[k][what] : HerdMasters.BAD;
                    Due.is("log(" + m + ", " + k + ", " + what + ")", herd.log(m, k, what), want);
                }
            }
        }
        wrongInputs(herd);
        aTakenLogHasNothingBehindIt();
        Due.end();
    }

    private static void wrongInputs(HerdMasters herd) {
        int[] none = {-1, 7, 60, 61, 99, Integer.MIN_VALUE, Integer.MAX_VALUE};
        for (int k : none) {
            Due.is("log(0, 0, " + k + ")", herd.log(0, 0, k), HerdMasters.BAD);
            Due.is("log(0, " + k + ", 0)", herd.log(0, k, 0), HerdMasters.BAD);
            Due.is("log(" + k + ", 0, 0)", herd.log(k, 0, 0), HerdMasters.BAD);
        }
        Due.is("log(3, 0, 0)", herd.log(3, 0, 0), HerdMasters.BAD);
        Due.is("log(0, 2, 0)", herd.log(0, 2, 0), HerdMasters.BAD);
    }

    private static void aTakenLogHasNothingBehindIt() {
        HerdMasters herd = new HerdMasters(3);
        herd.link(0, 1, false);
        herd.link(0, 2, false);
        herd.order(0, 0, 1, 1, 5, 0, 0, 0, 40);
        herd.order(0, 0, 2, 1, 6, 0, 0, 0, 40);
        herd.change(1, 40);
        herd.order(1, 1, 9, 1, 7, 0, 0, 0, 40);
        herd.link(0, 1, true);
        herd.change(1, 40);
        Due.is("the order of 1", herd.log(0, 0, 1), 9);
        Due.is("its length", herd.told(0, 2), 1);
        Due.is("nothing behind it", herd.log(0, 1, 1), HerdMasters.BAD);
    }
}
