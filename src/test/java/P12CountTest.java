/** Promise 12: count. */
final class P12CountTest {
    public static void main(String[] args) {
        wrongInputs();
        messages();
        answers();
        views();
        Due.end();
    }

    private static void wrongInputs() {
        HerdMasters herd = new HerdMasters(5);
        int[] none = {-1, 4, 5, Integer.MIN_VALUE, Integer.MAX_VALUE};
        for (int what : none) {
            Due.is("count(" + what + ")", herd.count(what), HerdMasters.BAD);
        }
        Due.is("masters of five", herd.count(0), 5);
        Due.is("masters of three", new HerdMasters(3).count(0), 3);
    }

    private static void messages() {
        HerdMasters herd = new HerdMasters(5);
        herd.order(0, 0, 1, 1, 5, 0, 0, 0, 3);
        Due.is("as many as were let", herd.count(1), 3);
        herd.order(0, 0, 2, 1, 5, 0, 0, 0, 40);
        Due.is("to four and back", herd.count(1), 11);
        herd.order(0, 0, 2, 1, 5, 0, 0, 0, 40);
        Due.is("none for a repeated order", herd.count(1), 11);
        herd.order(1, 0, 3, 1, 5, 0, 0, 0, 40);
        Due.is("none where none leads", herd.count(1), 11);
        herd.change(1, 40);
        Due.is("two asked, two back, four told", herd.count(1), 19);
        herd.order(0, 0, 3, 1, 5, 0, 0, 0, 40);
        Due.is("none from the old leader, which was told", herd.count(1), 19);
        herd.up(0, false);
        herd.up(2, false);
        herd.order(1, 0, 3, 1, 5, 0, 0, 0, 40);
        Due.is("to two and back", herd.count(1), 23);
        herd.told(0, 0);
        herd.agree();
        Due.is("none for looking", herd.count(1), 23);
    }

    private static void answers() {
        HerdMasters herd = new HerdMasters(3);
        herd.order(0, 0, 5, 1, 5, 0, 0, 0, 40);
        herd.order(0, 0, 6, 9, 0, 0, 0, 0, 40);
        Due.is("- 1 of the scheduler is an answer", herd.count(2), 2);
        herd.order(0, 0, 5, 1, 5, 0, 0, 0, 40);
        Due.is("a repeated one is an answer", herd.count(2), 3);
        herd.order(0, 0, 4, 1, 5, 0, 0, 0, 40);
        herd.order(1, 0, 7, 1, 5, 0, 0, 0, 40);
        Due.is("- 3 is none", herd.count(2), 3);
        herd.order(0, 0, 7, 1, 5, 0, 0, 0, 1);
        Due.is("- 2 is none", herd.count(2), 3);
        herd.order(0, 4, 7, 1, 5, 0, 0, 0, 1);
        Due.is("an order that could not be brought has none", herd.count(2), 3);
        herd.change(1, 40);
        Due.is("a view is none", herd.count(2), 3);
    }

    private static void views() {
        HerdMasters herd = new HerdMasters(3);
        herd.change(1, 40);
        Due.is("of all", herd.count(3), 1);
        herd.change(2, 0);
        Due.is("of one that is not normal", herd.count(3), 2);
        herd.up(2, false);
        Due.is("of one that is down", herd.count(3), 2);
        herd.change(0, 40);
        Due.is("of 0", herd.count(3), 3);
    }
}
