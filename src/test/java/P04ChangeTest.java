/** Promise 4: change, with CHANGE OF VIEW and the limit of MESSAGES. */
final class P04ChangeTest {
    private static final int BAD = HerdMasters.BAD;
    private static final int OPEN = HerdMasters.OPEN;
    private static final int NOT_HERE = HerdMasters.NOT_HERE;

    public static void main(String[] args) {
        wrongInputs();
        whichView();
        everyEndOfThree();
        everyEndOfFive();
        greaterViewSaysNothing();
        greaterViewThatIsNotNormalSaysNothing();
        greatestNormalViewWins();
        longestOfThoseWins();
        onlyThoseAskedCount();
        greatestDoneIsTaken();
        ownDoneIsKept();
        Due.end();
    }

    private static void wrongInputs() {
        HerdMasters herd = new HerdMasters(3);
        Due.is("change(-1, 5)", herd.change(-1, 5), BAD);
        Due.is("change(3, 5)", herd.change(3, 5), BAD);
        Due.is("change(0, -1)", herd.change(0, -1), BAD);
        Due.is("change(0, 41)", herd.change(0, 41), BAD);
        Due.is("change(MIN, MAX)", herd.change(Integer.MIN_VALUE, Integer.MAX_VALUE), BAD);
        Due.is("no view began", herd.count(3), 0);
        herd.up(1, false);
        Due.is("down", herd.change(1, 40), NOT_HERE);
        Due.is("down, other messages", herd.change(1, 41), BAD);
        Due.is("down: its view stays", herd.told(1, 0), 0);
        Due.is("0 messages are some", herd.change(2, 0), OPEN);
        Due.is("40 messages are some", herd.change(2, 40), 5);
    }

    private static void whichView() {
        HerdMasters herd = new HerdMasters(5);
        Due.is("the next that 0 leads", herd.change(0, 40), 5);
        Due.is("of 0 again", herd.change(0, 40), 10);
        Due.is("of 4", herd.change(4, 40), 14);
        Due.is("of 1", herd.change(1, 40), 16);
        Due.is("of 1 again", herd.change(1, 40), 21);
        Due.is("of 0", herd.change(0, 40), 25);
        Due.is("greatest", herd.count(3), 25);
    }

    /** Masters' views and last normal views after change(1, messages) on three new masters. */
    private static void everyEndOfThree() {
        int[][] due = {
            {OPEN, 0, 1, 0, 0, 0, 0},
            {OPEN, 1, 1, 0, 0, 0, 0},
            {1, 1, 1, 0, 0, 1, 0},
            {1, 1, 1, 0, 1, 1, 0},
            {1, 1, 1, 1, 1, 1, 1},
            {1, 1, 1, 1, 1, 1, 1}};
        for (int messages = 0; messages < due.length; messages++) {
            HerdMasters herd = new HerdMasters(3);
            String name = "change(1, " + messages + ")";
            Due.is(name, herd.change(1, messages), due[messages][0]);
            for (int m = 0; m < 3; m++) {
                Due.is(name + " view of " + m, herd.told(m, 0), due[messages][1 + m]);
                Due.is(name + " normal of " + m, herd.told(m, 1), due[messages][4 + m]);
            }
            Due.is(name + " messages", herd.count(1), Math.min(messages, 4));
        }
    }

    private static void everyEndOfFive() {
        for (int messages = 0; messages <= 9; messages++) {
            HerdMasters herd = new HerdMasters(5);
            String name = "five: change(3, " + messages + ")";
            Due.is(name, herd.change(3, messages), messages < 4 ? OPEN : 3);
            int[] asked = {1, 3, 99, 0, 99};
            int[] told = {5, 6, 7, 4, 8};
            for (int m = 0; m < 5; m++) {
                boolean knows = messages >= asked[m] || messages >= told[m];
                Due.is(name + " view of " + m, herd.told(m, 0), knows ? 3 : 0);
                Due.is(name + " normal of " + m, herd.told(m, 1), messages >= told[m] ? 3 : 0);
            }
            Due.is(name + " messages", herd.count(1), Math.min(messages, 8));
        }
    }

    private static void greaterViewSaysNothing() {
        HerdMasters herd = new HerdMasters(3);
        herd.link(1, 2, false);
        herd.link(0, 1, false);
        Due.is("change(2)", herd.change(2, 40), 2);
        herd.link(0, 1, true);
        int before = herd.count(1);
        Due.is("0 has view 2 and says nothing to view 1", herd.change(1, 40), OPEN);
        Due.is("one message all the same", herd.count(1), before + 1);
        Due.is("0 keeps its view", herd.told(0, 0), 2);
        Due.is("0 is normal", herd.told(0, 1), 2);
        Due.is("1 has view 1", herd.told(1, 0), 1);
        Due.is("1 is not normal", herd.told(1, 1), 0);
        Due.is("1 asks again", herd.change(1, 40), 4);
        Due.is("a master that is not normal takes no order", herd.told(2, 0), 2);
    }

    private static void greaterViewThatIsNotNormalSaysNothing() {
        HerdMasters herd = new HerdMasters(3);
        herd.link(1, 2, false);
        Due.is("0 has view 2, and is not normal", herd.change(2, 1), OPEN);
        Due.is("0 says nothing to view 1", herd.change(1, 40), OPEN);
        Due.is("two messages in all", herd.count(1), 2);
        Due.is("0 keeps its view", herd.told(0, 0), 2);
        Due.is("1 is not normal", herd.told(1, 1), 0);
        Due.is("0 is not normal", herd.told(0, 1), 0);
    }

    private static void greatestNormalViewWins() {
        HerdMasters herd = new HerdMasters(3);
        herd.up(0, false);
        Due.is("change(1)", herd.change(1, 40), 1);
        Due.is("an order in view 1", herd.order(1, 0, 1, 1, 9, 0, 0, 0, 40), 0);
        herd.up(0, true);
        herd.up(1, false);
        for (int k = 1; k <= 3; k++) {
            herd.link(0, 2, false);
            Due.is("orders in view 0", herd.order(0, 1, k, 1, 5, 0, 0, 0, 40), OPEN);
            herd.link(0, 2, true);
        }
        Due.is("0 asks 2", herd.change(0, 40), 3);
        Due.is("the shorter log of the later view", herd.told(0, 2), 1);
        Due.is("it is that log", herd.log(0, 0, 3), 9);
        Due.is("2 did not know it done", herd.told(0, 3), 0);
        Due.is("it gives what it gave", herd.order(0, 2, 1, 1, 4, 0, 0, 0, 40), 1);
        Due.is("its worker", herd.worker(0, 0, 0), 9);
    }

    private static void longestOfThoseWins() {
        HerdMasters herd = new HerdMasters(5);
        herd.order(0, 0, 1, 1, 11, 0, 0, 0, 1);
        herd.order(0, 0, 2, 1, 12, 0, 0, 0, 3);
        Due.is("log of 0", herd.told(0, 2), 2);
        Due.is("log of 1", herd.told(1, 2), 2);
        Due.is("log of 2", herd.told(2, 2), 2);
        herd.order(0, 0, 3, 1, 13, 0, 0, 0, 1);
        Due.is("log of 1 is longer", herd.told(1, 2), 3);
        herd.up(0, false);
        Due.is("change(4) asks 1 and 2", herd.change(4, 4), 4);
        Due.is("the longest", herd.told(4, 2), 3);
        Due.is("no order is known to be done", herd.told(4, 3), 0);
        Due.is("1 is not told yet", herd.told(1, 1), 0);
        Due.is("all of it is done with the next", herd.order(4, 1, 1, 1, 14, 0, 0, 0, 40), 3);
        Due.is("4 orders done", herd.told(4, 3), 4);
    }

    private static void onlyThoseAskedCount() {
        HerdMasters herd = new HerdMasters(3);
        herd.link(1, 2, false);
        herd.order(0, 0, 1, 1, 7, 0, 0, 0, 1);
        herd.link(0, 1, false);
        herd.order(0, 0, 2, 1, 8, 0, 0, 0, 1);
        herd.link(0, 1, true);
        Due.is("1 has one", herd.told(1, 2), 1);
        Due.is("2 has both", herd.told(2, 2), 2);
        Due.is("1 asks 0", herd.change(1, 40), 1);
        Due.is("0 has the longer", herd.told(1, 2), 2);
        Due.is("2 is not reached", herd.told(2, 0), 0);
        HerdMasters five = new HerdMasters(5);
        five.up(0, false);
        five.change(1, 40);
        five.link(1, 2, false);
        five.link(1, 3, false);
        five.order(1, 0, 1, 1, 7, 0, 0, 0, 40);
        five.up(1, false);
        five.up(0, true);
        Due.is("4 alone has the order", five.told(4, 2), 1);
        Due.is("0 asks 2 and 3, and no more", five.change(0, 40), 5);
        Due.is("so the order is lost", five.told(0, 2), 0);
        Due.is("for 4, too", five.told(4, 2), 0);
    }

    private static void greatestDoneIsTaken() {
        HerdMasters herd = new HerdMasters(3);
        Due.is("order", herd.order(0, 0, 1, 1, 7, 0, 0, 0, 40), 0);
        Due.is("1 does not know it done", herd.told(1, 3), 0);
        Due.is("2 knows it done", herd.told(2, 3), 1);
        herd.up(0, false);
        Due.is("1 has no worker", herd.worker(1, 0, 0), BAD);
        Due.is("1 asks 2", herd.change(1, 2), 1);
        Due.is("1 knows it done", herd.told(1, 3), 1);
        Due.is("1 has the worker", herd.worker(1, 0, 0), 7);
    }

    private static void ownDoneIsKept() {
        HerdMasters herd = new HerdMasters(5);
        herd.link(0, 3, false);
        herd.link(0, 4, false);
        Due.is("done with 1 and 2", herd.order(0, 0, 1, 1, 7, 0, 0, 0, 40), 0);
        Due.is("0 knows", herd.told(0, 3), 1);
        Due.is("1 does not", herd.told(1, 3), 0);
        herd.up(0, false);
        Due.is("1 leads with 2 and 3", herd.change(1, 40), 1);
        Due.is("1 knows nothing done", herd.told(1, 3), 0);
        Due.is("1 has the order", herd.told(1, 2), 1);
        herd.up(0, true);
        Due.is("the next order tells 0 first", herd.order(1, 1, 1, 7, 5, 0, 0, 0, 1), OPEN);
        Due.is("0 has the longer log", herd.told(0, 2), 2);
        Due.is("0 still knows one done", herd.told(0, 3), 1);
        Due.is("0 has view 1", herd.told(0, 1), 1);
        Due.is("0 changes with its own number", herd.change(0, 4), 5);
        Due.is("one done", herd.told(0, 3), 1);
    }
}
