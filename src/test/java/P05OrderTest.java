/** Promise 5: order, as masters bring it about. */
final class P05OrderTest {
    private static final int BAD = HerdMasters.BAD;
    private static final int OPEN = HerdMasters.OPEN;
    private static final int NOT_HERE = HerdMasters.NOT_HERE;

    public static void main(String[] args) {
        wrongInputs();
        edgesOfInputs();
        whoTakesOrders();
        everyEndOfThree();
        everyEndOfFive();
        numbersOfAClient();
        repeatedOrderKeepsItsAnswer();
        repeatedOrderAtAnotherLeader();
        allTheLogIsDone();
        oldLeader();
        laggardIsBrought();
        fullLog();
        Due.end();
    }

    private static void wrongInputs() {
        HerdMasters herd = new HerdMasters(3);
        int[][] wrong = {
            {-1, 0, 1, 40}, {3, 0, 1, 40}, {0, -1, 1, 40}, {0, 4, 1, 40}, {0, 0, 0, 40}, {0, 0, -1, 40},
            {0, 0, 1001, 40}, {0, 0, 1, -1}, {0, 0, 1, 41}, {Integer.MAX_VALUE, 0, 1, 40},
            {Integer.MIN_VALUE, 0, 1, 40}, {0, Integer.MAX_VALUE, 1, 40}, {0, 0, Integer.MIN_VALUE, 40},
            {0, 0, 1, Integer.MAX_VALUE}};
        for (int[] w : wrong) {
            Due.is("order(" + w[0] + ", " + w[1] + ", " + w[2] + ", .., " + w[3] + ")",
                herd.order(w[0], w[1], w[2], 1, 5, 0, 0, 0, w[3]), BAD);
        }
        Due.is("nothing in the log", herd.told(0, 2), 0);
        Due.is("no message", herd.count(1), 0);
        Due.is("no answer", herd.count(2), 0);
        herd.up(0, false);
        Due.is("wrong and down", herd.order(0, 4, 1, 1, 5, 0, 0, 0, 40), BAD);
        Due.is("wrong, and no leader", herd.order(1, 0, 1, 1, 5, 0, 0, 0, 41), BAD);
    }

    private static void edgesOfInputs() {
        HerdMasters herd = new HerdMasters(3);
        Due.is("client 3, number 1000", herd.order(0, 3, 1000, 1, 5, 0, 0, 0, 40), 0);
        Due.is("client 0, number 1", herd.order(0, 0, 1, 1, 5, 0, 0, 0, 40), 1);
        Due.is("0 messages", herd.order(0, 1, 1, 1, 5, 0, 0, 0, 0), OPEN);
    }

    private static void whoTakesOrders() {
        HerdMasters herd = new HerdMasters(3);
        Due.is("1 does not lead view 0", herd.order(1, 0, 1, 1, 5, 0, 0, 0, 40), NOT_HERE);
        Due.is("2 does not lead view 0", herd.order(2, 0, 1, 1, 5, 0, 0, 0, 40), NOT_HERE);
        herd.change(1, 1);
        Due.is("0 does not lead view 1", herd.order(0, 0, 1, 1, 5, 0, 0, 0, 40), NOT_HERE);
        Due.is("1 is not normal in view 1", herd.order(1, 0, 1, 1, 5, 0, 0, 0, 40), NOT_HERE);
        Due.is("1 changes", herd.change(1, 40), 4);
        herd.up(1, false);
        Due.is("1 is down", herd.order(1, 0, 1, 1, 5, 0, 0, 0, 40), NOT_HERE);
        herd.up(1, true);
        Due.is("logs are empty", herd.told(0, 2) + herd.told(1, 2) + herd.told(2, 2), 0);
        Due.is("no answer yet", herd.count(2), 0);
        Due.is("1 leads view 4", herd.order(1, 0, 1, 1, 5, 0, 0, 0, 40), 0);
    }

    /** The answer, then logs and orders known to be done of 0, 1, 2, after a second order. */
    private static void everyEndOfThree() {
        int[][] due = {
            {OPEN, 2, 1, 1, 1, 0, 1},
            {OPEN, 2, 2, 1, 1, 1, 1},
            {1, 2, 2, 1, 2, 1, 1},
            {1, 2, 2, 2, 2, 1, 2},
            {1, 2, 2, 2, 2, 1, 2},
            {1, 2, 2, 2, 2, 1, 2}};
        for (int messages = 0; messages < due.length; messages++) {
            HerdMasters herd = new HerdMasters(3);
            herd.order(0, 0, 1, 1, 5, 0, 0, 0, 40);
            String name = "second order with " + messages;
            Due.is(name, herd.order(0, 0, 2, 1, 6, 0, 0, 0, messages), due[messages][0]);
            for (int m = 0; m < 3; m++) {
                Due.is(name + " log of " + m, herd.told(m, 2), due[messages][1 + m]);
                Due.is(name + " done of " + m, herd.told(m, 3), due[messages][4 + m]);
            }
            Due.is(name + " messages", herd.count(1), 4 + Math.min(messages, 4));
        }
    }

    private static void everyEndOfFive() {
        for (int messages = 0; messages <= 9; messages++) {
            HerdMasters herd = new HerdMasters(5);
            String name = "five: order with " + messages;
            Due.is(name, herd.order(0, 0, 1, 1, 6, 0, 0, 0, messages), messages < 4 ? OPEN : 0);
            Due.is(name + " log of 0", herd.told(0, 2), 1);
            Due.is(name + " done of 0", herd.told(0, 3), messages < 4 ? 0 : 1);
            for (int m = 1; m < 5; m++) {
                boolean has = messages >= 2 * m - 1;
                Due.is(name + " log of " + m, herd.told(m, 2), has ? 1 : 0);
                Due.is(name + " done of " + m, herd.told(m, 3), has && m >= 3 ? 1 : 0);
            }
            Due.is(name + " messages", herd.count(1), Math.min(messages, 8));
        }
    }

    private static void numbersOfAClient() {
        HerdMasters herd = new HerdMasters(3);
        Due.is("number 5", herd.order(0, 1, 5, 1, 5, 0, 0, 0, 40), 0);
        Due.is("number 4 is less, and not there", herd.order(0, 1, 4, 1, 5, 0, 0, 0, 40), NOT_HERE);
        Due.is("another client's number 4", herd.order(0, 2, 4, 1, 5, 0, 0, 0, 40), 1);
        Due.is("number 9", herd.order(0, 1, 9, 1, 5, 0, 0, 0, 40), 2);
        Due.is("number 5 is there, though 9 is", herd.order(0, 1, 5, 1, 5, 0, 0, 0, 40), 0);
        Due.is("number 8 is not", herd.order(0, 1, 8, 1, 5, 0, 0, 0, 40), NOT_HERE);
        Due.is("number 10 open", herd.order(0, 1, 10, 1, 5, 0, 0, 0, 1), OPEN);
        Due.is("number 10 is there, not done", herd.order(0, 1, 10, 1, 5, 0, 0, 0, 40), NOT_HERE);
        Due.is("number 9 is done", herd.order(0, 1, 9, 1, 5, 0, 0, 0, 40), 2);
        Due.is("log", herd.told(0, 2), 4);
        Due.is("done", herd.told(0, 3), 3);
        Due.is("messages of the four", herd.count(1), 13);
        Due.is("number 11", herd.order(0, 1, 11, 1, 5, 0, 0, 0, 40), 4);
        Due.is("number 10 is done with it", herd.order(0, 1, 10, 1, 5, 0, 0, 0, 0), 3);
    }

    private static void repeatedOrderKeepsItsAnswer() {
        HerdMasters herd = new HerdMasters(3);
        herd.order(0, 0, 1, 0, 0, 20, 0, 0, 40);
        herd.order(0, 0, 2, 2, 0, 5, 0, -1, 40);
        Due.is("it waits", herd.order(0, 0, 3, 7, 0, 0, 0, 0, 40), 0);
        Due.is("cancelled", herd.order(0, 0, 4, 5, 0, 0, 0, 0, 40), 1);
        Due.is("how it stood", herd.order(0, 0, 3, 7, 0, 0, 0, 0, 40), 0);
        Due.is("cancelled, the answer of then", herd.order(0, 0, 4, 5, 0, 0, 0, 0, 40), 1);
        Due.is("whatever is asked now", herd.order(0, 0, 4, 1, 99, 99, 99, 99, 0), 1);
        Due.is("how it stands", herd.order(0, 0, 5, 7, 0, 0, 0, 0, 40), 3000);
        Due.is("log", herd.told(0, 2), 5);
        Due.is("answers", herd.count(2), 8);
    }

    private static void repeatedOrderAtAnotherLeader() {
        HerdMasters herd = new HerdMasters(3);
        Due.is("first", herd.order(0, 0, 1, 1, 5, 0, 0, 0, 40), 0);
        Due.is("second, not heard of by 2", herd.order(0, 0, 2, 1, 6, 0, 0, 0, 2), 1);
        Due.is("change(1)", herd.change(1, 40), 1);
        Due.is("again at 1", herd.order(1, 0, 2, 1, 6, 0, 0, 0, 40), 1);
        Due.is("and the first", herd.order(1, 0, 1, 1, 6, 0, 0, 0, 40), 0);
        Due.is("0 leads no more", herd.order(0, 0, 2, 1, 6, 0, 0, 0, 40), NOT_HERE);
    }

    private static void allTheLogIsDone() {
        HerdMasters herd = new HerdMasters(5);
        Due.is("open", herd.order(0, 0, 1, 1, 5, 0, 0, 0, 0), OPEN);
        Due.is("open", herd.order(0, 1, 1, 1, 6, 0, 0, 0, 3), OPEN);
        Due.is("nothing done", herd.told(0, 3), 0);
        Due.is("third worker", herd.order(0, 2, 1, 1, 7, 0, 0, 0, 4), 2);
        Due.is("all three done", herd.told(0, 3), 3);
        Due.is("2 has them", herd.told(2, 2), 3);
        Due.is("2 does not know it", herd.told(2, 3), 0);
        Due.is("3 has none", herd.told(3, 2), 0);
        Due.is("the first's answer", herd.order(0, 0, 1, 1, 5, 0, 0, 0, 0), 0);
        Due.is("the second's answer", herd.order(0, 1, 1, 1, 5, 0, 0, 0, 0), 1);
    }

    /** A leader that has not heard of the next view brings nothing about, and harms nothing. */
    private static void oldLeader() {
        HerdMasters herd = new HerdMasters(3);
        herd.link(0, 1, false);
        herd.link(0, 2, false);
        Due.is("1 leads", herd.change(1, 40), 1);
        Due.is("1 is obeyed", herd.order(1, 0, 1, 1, 9, 0, 0, 0, 40), 0);
        herd.link(0, 1, true);
        herd.link(0, 2, true);
        int before = herd.count(1);
        Due.is("0 is not", herd.order(0, 1, 1, 1, 4, 0, 0, 0, 40), OPEN);
        Due.is("it asked both", herd.count(1), before + 2);
        Due.is("its log", herd.log(0, 0, 3), 4);
        Due.is("the log of 1", herd.log(1, 0, 3), 9);
        Due.is("view of 0", herd.told(0, 0), 0);
        Due.is("the next order of 1", herd.order(1, 0, 2, 1, 8, 0, 0, 0, 40), 1);
        Due.is("0 has the log of 1", herd.log(0, 0, 3), 9);
        Due.is("0 has its length", herd.told(0, 2), 2);
        Due.is("the lost order may come again", herd.order(1, 1, 1, 1, 4, 0, 0, 0, 40), 2);
    }

    private static void laggardIsBrought() {
        HerdMasters herd = new HerdMasters(5);
        herd.up(4, false);
        Due.is("change(2)", herd.change(2, 40), 2);
        Due.is("a", herd.order(2, 0, 1, 1, 9, 0, 0, 0, 40), 0);
        Due.is("b", herd.order(2, 0, 2, 1, 8, 0, 0, 0, 40), 1);
        herd.up(4, true);
        Due.is("c", herd.order(2, 0, 3, 1, 7, 0, 0, 0, 40), 2);
        Due.is("view of 4", herd.told(4, 0), 2);
        Due.is("normal of 4", herd.told(4, 1), 2);
        Due.is("log of 4", herd.told(4, 2), 3);
        Due.is("done of 4", herd.told(4, 3), 3);
        Due.is("its workers", herd.worker(4, 2, 0), 7);
        Due.is("a part view: 3", herd.change(3, 1), OPEN);
        Due.is("0 is out of view 2", herd.told(0, 0), 3);
        Due.is("d is done by 1 and 4", herd.order(2, 0, 4, 1, 6, 0, 0, 0, 40), 3);
        Due.is("not by 0", herd.told(0, 2), 3);
        Due.is("not by 3", herd.told(3, 2), 3);
    }

    private static void fullLog() {
        Client client = Client.ofNewHerd(3);
        client.number = 900;
        for (int k = 0; k < 60; k++) {
            Due.is("order " + k, client.order(8, k, 0, 0, 0), -1);
        }
        int before = client.herd.count(1);
        Due.is("the log is full", client.order(8, 0, 0, 0, 0), NOT_HERE);
        Due.is("no message", client.herd.count(1), before);
        Due.is("length", client.herd.told(0, 2), 60);
        Due.is("last", client.herd.log(0, 59, 3), 59);
        Due.is("a repeated order is answered still", client.herd.order(0, 0, 960, 8, 0, 0, 0, 0, 40), -1);
        Due.is("a lesser number is not there", client.herd.order(0, 0, 900, 8, 0, 0, 0, 0, 40), NOT_HERE);
        Due.is("change of view with a full log", client.herd.change(1, 40), 1);
        Due.is("full there, too", client.herd.order(1, 1, 1, 8, 0, 0, 0, 0, 40), NOT_HERE);
        Due.is("agree", client.herd.agree(), true);
    }
}
