/** Promise 2: link. */
final class P02LinkTest {
    public static void main(String[] args) {
        wrongInputs();
        cutBothWays();
        onlyThatLink();
        again();
        Due.end();
    }

    private static void wrongInputs() {
        HerdMasters three = new HerdMasters(3);
        HerdMasters five = new HerdMasters(5);
        Due.is("link(0, 0, false)", three.link(0, 0, false), false);
        Due.is("link(2, 2, true)", three.link(2, 2, true), false);
        Due.is("link(0, 3, false)", three.link(0, 3, false), false);
        Due.is("link(3, 0, false)", three.link(3, 0, false), false);
        Due.is("link(3, 4, false)", three.link(3, 4, false), false);
        Due.is("link(-1, 0, false)", three.link(-1, 0, false), false);
        Due.is("link(0, -1, false)", three.link(0, -1, false), false);
        Due.is("link(MIN, MAX, false)", three.link(Integer.MIN_VALUE, Integer.MAX_VALUE, false), false);
        Due.is("nothing was cut", three.order(0, 0, 1, 1, 5, 0, 0, 0, 40), 0);
        Due.is("nothing was cut: messages", three.count(1), 4);
        Due.is("five: link(3, 4, false)", five.link(3, 4, false), true);
        Due.is("five: link(4, 5, false)", five.link(4, 5, false), false);
    }

    private static void cutBothWays() {
        for (int turn = 0; turn < 2; turn++) {
            HerdMasters herd = new HerdMasters(3);
            Due.is("cut", turn == 0 ? herd.link(0, 1, false) : herd.link(1, 0, false), true);
            Due.is("0 goes by 1", herd.order(0, 0, 1, 1, 5, 0, 0, 0, 40), 0);
            Due.is("1 was not told", herd.told(1, 2), 0);
            Due.is("2 was told", herd.told(2, 2), 1);
            Due.is("two messages", herd.count(1), 2);
            Due.is("1 goes by 0", herd.change(1, 40), 1);
            Due.is("0 was not told", herd.told(0, 0), 0);
            Due.is("1 has the order from 2", herd.told(1, 2), 1);
            Due.is("five messages", herd.count(1), 5);
        }
    }

    private static void onlyThatLink() {
        HerdMasters herd = new HerdMasters(5);
        herd.link(3, 1, false);
        Due.is("change(3)", herd.change(3, 40), 3);
        int[] views = {3, 0, 3, 3, 3};
        for (int m = 0; m < 5; m++) {
            Due.is("view of " + m, herd.told(m, 0), views[m]);
        }
        int before = herd.count(1);
        Due.is("1 asks 0, 2 and 4, which have a greater view", herd.change(1, 40), HerdMasters.OPEN);
        Due.is("three messages", herd.count(1), before + 3);
    }

    private static void again() {
        HerdMasters herd = new HerdMasters(3);
        Due.is("a link that is there", herd.link(0, 1, true), true);
        Due.is("cut", herd.link(0, 1, false), true);
        Due.is("cut again", herd.link(0, 1, false), true);
        Due.is("cut", herd.link(0, 2, false), true);
        Due.is("alone", herd.order(0, 0, 1, 1, 5, 0, 0, 0, 40), HerdMasters.OPEN);
        Due.is("mended", herd.link(1, 0, true), true);
        Due.is("with 1", herd.order(0, 0, 2, 1, 5, 0, 0, 0, 40), 1);
        Due.is("2 was not told", herd.told(2, 2), 0);
    }
}
