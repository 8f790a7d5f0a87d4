/** The boundaries of an order on its way to a majority: "Terms" as far as it, and promise 5. */
final class EdgesOfOrderTest {
    private static final int BAD = HerdMasters.BAD;
    private static final int OPEN = HerdMasters.OPEN;
    private static final int NOT_HERE = HerdMasters.NOT_HERE;
    private static final int[] SIZES = {3, 5};
    private static final int MIN = Integer.MIN_VALUE;
    private static final int MAX = Integer.MAX_VALUE;

    static final Edges EDGES = new Edges()
        .in("Terms")
        .add("AN ORDER is brought by a client to a master: not counted as a message.", EdgesOfOrderTest::notAMessage)
        .add("If that is down", EdgesOfOrderTest::down)
        .add("not normal", EdgesOfOrderTest::notNormal)
        .add("or does not lead its view: - 3.", EdgesOfOrderTest::doesNotLead)
        .add("If its log has an order of this client with this number, or a greater one", EdgesOfOrderTest::thisNumberOrAGreater)
        .add("with this one, done: the answer that it had", EdgesOfOrderTest::theAnswerThatItHad)
        .add("else - 3, and nothing is done.", EdgesOfOrderTest::elseNothingIsDone)
        .add("If its log is full: - 3.", EdgesOfOrderTest::fullLog)
        .add("Otherwise the order comes behind its log.", EdgesOfOrderTest::behindItsLog)
        .add("Then to each other master one message: if that one's view is this one or less, it takes view and log, "
            + "and the number of orders done (if that is above its own), and is normal; then", EdgesOfOrderTest::thisViewOrLess)
        .add("then one message back, if it did", EdgesOfOrderTest::oneMessageBack)
        .add("as soon as more than half of all masters, with itself, have it so", EdgesOfOrderTest::moreThanHalf)
        .add("all the log is done for the leader", EdgesOfOrderTest::allTheLog)
        .add("(others are still told, in order, with the number of orders done)", EdgesOfOrderTest::othersAreStillTold)
        .add("The answer is what the order gives, if it is done in the end; else - 2.", EdgesOfOrderTest::elseOpen)
        .in("Promise 5: order")
        .add("A client (0 .. 3) brings an order", EdgesOfOrderTest::clients)
        .add("with a number (1 .. 1,000) to a master: as above.", EdgesOfOrderTest::numbers)
        .add("BAD: none such client", EdgesOfOrderTest::noSuchClient)
        .add("number, master", EdgesOfOrderTest::noSuchNumber)
        .add("master, messages", EdgesOfOrderTest::noSuchMaster)
        .add("messages.", EdgesOfOrderTest::otherMessages);

    public static void main(String[] args) {
        EDGES.run();
    }

    /** A worker of capacity 5: an order that can be told by its answer. */
    private static int order(HerdMasters herd, int master, int client, int number, int messages) {
        return herd.order(master, client, number, 1, 5, 0, 0, 0, messages);
    }

    private static void told(HerdMasters herd, int master, int... due) {
        String[] names = {"view", "last normal view", "log", "orders done"};
        for (int what = 0; what < due.length; what++) {
            Due.is(names[what] + " of " + master, herd.told(master, what), due[what]);
        }
    }

    private static void notAMessage() {
        HerdMasters herd = new HerdMasters(3);
        Due.is("with 0 messages", order(herd, 0, 0, 1, 0), OPEN);
        Due.is("it is there all the same", herd.told(0, 2), 1);
        Due.is("no message", herd.count(1), 0);
        Due.is("with 1 message", order(herd, 0, 0, 2, 1), OPEN);
        Due.is("that goes to 1", herd.told(1, 2), 2);
        Due.is("one message", herd.count(1), 1);
    }

    private static void down() {
        HerdMasters herd = new HerdMasters(3);
        herd.up(0, false);
        Due.isRefused("it leads and is normal, but is down", herd, () -> order(herd, 0, 0, 1, 40), NOT_HERE);
        herd.up(0, true);
        Due.is("up", order(herd, 0, 0, 1, 40), 0);
        herd.up(0, false);
        Due.isRefused("an order that is done, too", herd, () -> order(herd, 0, 0, 1, 40), NOT_HERE);
    }

    private static void notNormal() {
        for (int n : SIZES) {
            HerdMasters herd = new HerdMasters(n);
            order(herd, 0, 0, 1, 40);
            herd.change(0, 0);
            told(herd, 0, n, 0);
            Due.isRefused("it is up and leads, but is not normal", herd, () -> order(herd, 0, 0, 2, 40), NOT_HERE);
            Due.isRefused("an order that is done, too", herd, () -> order(herd, 0, 0, 1, 40), NOT_HERE);
            herd.change(0, 40);
            Due.is("normal", order(herd, 0, 0, 2, 40), 1);
        }
    }

    private static void doesNotLead() {
        HerdMasters herd = new HerdMasters(3);
        Due.is("0 leads view 0", order(herd, 0, 0, 1, 40), 0);
        for (int m = 1; m < 3; m++) {
            int master = m;
            told(herd, m, 0, 0);
            Due.isRefused("it is up and normal, but does not lead", herd, () -> order(herd, master, 0, 2, 40), NOT_HERE);
            Due.isRefused("an order that is done, too", herd, () -> order(herd, master, 0, 1, 40), NOT_HERE);
        }
        herd.change(2, 40);
        Due.is("2 leads view 2", order(herd, 2, 0, 2, 40), 1);
        Due.isRefused("0 does not", herd, () -> order(herd, 0, 0, 3, 40), NOT_HERE);
        HerdMasters old = new HerdMasters(3);
        old.link(0, 1, false);
        old.link(0, 2, false);
        old.change(1, 40);
        Due.is("0 leads its own view 0, though there is a greater one", order(old, 0, 0, 1, 40), OPEN);
        told(old, 0, 0, 0, 1, 0);
    }

    private static void thisNumberOrAGreater() {
        HerdMasters herd = new HerdMasters(3);
        Due.is("500", order(herd, 0, 1, 500, 40), 0);
        Due.isRefused("499: a greater one is there", herd, () -> order(herd, 0, 1, 499, 40), NOT_HERE);
        Due.isRefused("1: a greater one is there", herd, () -> order(herd, 0, 1, 1, 40), NOT_HERE);
        Due.is("500: this one is there", order(herd, 0, 1, 500, 40), 0);
        Due.is("no second one in the log", herd.told(0, 2), 1);
        Due.is("501: new", order(herd, 0, 1, 501, 40), 1);
        Due.is("another client's 499", order(herd, 0, 0, 499, 40), 2);
        Due.is("another client's 500", order(herd, 0, 2, 500, 40), 3);
        Due.is("1,000", order(herd, 0, 1, 1000, 40), 4);
        Due.isRefused("999: a greater one is there", herd, () -> order(herd, 0, 1, 999, 40), NOT_HERE);
        HerdMasters lost = new HerdMasters(3);
        order(lost, 0, 0, 5, 0);
        lost.up(0, false);
        lost.change(1, 40);
        Due.is("its log, not another's: 4 after 5 was lost", order(lost, 1, 0, 4, 40), 0);
    }

    private static void theAnswerThatItHad() {
        Client client = Client.withWorkers(9);
        client.addTask(0, 3, 0, -1);
        Due.is("it waits", client.standing(0), 0);
        client.placing();
        HerdMasters herd = client.herd;
        int before = herd.count(1);
        Due.is("it waited then", herd.order(0, 0, 7, 7, 0, 0, 0, 0, 40), 0);
        Due.is("whatever the numbers are now", herd.order(0, 0, 7, 1, 5, 5, 5, 5, 0), 0);
        Due.is("an answer of - 1, too", client.addWorker(21), -1);
        Due.is("again", herd.order(0, 0, client.number, 1, 20, 0, 0, 0, 40), -1);
        Due.is("messages for the new one alone", herd.count(1), before + 4);
        Due.is("so many orders", herd.told(0, 2), client.number);
        Due.is("a greater one that is open", herd.order(0, 0, 20, 8, 0, 0, 0, 0, 0), OPEN);
        Due.is("this one is done, though the greater one is not", herd.order(0, 0, 6, 0, 0, 0, 0, 0, 40), 0);
        Due.is("at a new leader", herd.change(2, 40), 2);
        Due.is("the answer that it had", herd.order(2, 0, 7, 0, 0, 0, 0, 0, 0), 0);
        Due.is("of the placing", herd.order(2, 0, 8, 0, 0, 0, 0, 0, 0), 1);
    }

    private static void elseNothingIsDone() {
        HerdMasters herd = new HerdMasters(3);
        order(herd, 0, 0, 7, 40);
        Due.is("open", order(herd, 0, 0, 9, 1), OPEN);
        Due.isRefused("this one is there, not done", herd, () -> order(herd, 0, 0, 9, 40), NOT_HERE);
        Due.isRefused("a greater one is there, this one is not", herd, () -> order(herd, 0, 0, 8, 40), NOT_HERE);
        Due.isRefused("a greater one is there and done", herd, () -> order(herd, 0, 0, 6, 40), NOT_HERE);
        Due.is("one more makes all done", order(herd, 0, 1, 1, 40), 2);
        Due.is("this one is there, done", order(herd, 0, 0, 9, 40), 1);
        HerdMasters follower = new HerdMasters(3);
        order(follower, 0, 0, 1, 2);
        told(follower, 0, 0, 0, 1, 1);
        told(follower, 1, 0, 0, 1, 0);
        follower.up(0, false);
        Due.is("1 and 2 lead on, and know none to be done", follower.change(1, 40), 1);
        Due.isRefused("done, but not as it knows", follower, () -> order(follower, 1, 0, 1, 40), NOT_HERE);
    }

    private static void fullLog() {
        HerdMasters herd = new HerdMasters(3);
        for (int k = 1; k <= 59; k++) {
            herd.order(0, k % 4, 10 + k, 8, 0, 0, 0, 0, 40);
        }
        Due.is("59: not full", order(herd, 0, 0, 70, 0), OPEN);
        Due.is("60", herd.told(0, 2), 60);
        Due.isRefused("full", herd, () -> order(herd, 0, 1, 71, 40), NOT_HERE);
        Due.isRefused("full, and this one is not done", herd, () -> order(herd, 0, 0, 70, 40), NOT_HERE);
        Due.isRefused("full, and a greater one is there, not this one", herd, () -> order(herd, 0, 0, 1, 40), NOT_HERE);
        Due.is("full, and this one is done", herd.order(0, 3, 69, 8, 0, 0, 0, 0, 40), -1);
        Due.is("the 60th is not done, and cannot be", herd.told(0, 3), 59);
        Due.is("a change of view finds room where the log is shorter", herd.told(1, 2), 59);
        herd.up(0, false);
        herd.change(1, 40);
        Due.is("the 60th there", order(herd, 1, 1, 100, 40), 0);
        Due.isRefused("full there", herd, () -> order(herd, 1, 1, 101, 40), NOT_HERE);
    }

    private static void behindItsLog() {
        HerdMasters herd = new HerdMasters(3);
        for (int k = 0; k < 60; k++) {
            herd.order(0, 2, 1 + k, 9, k, 2 * k, 3 * k, 4 * k, k % 5);
            Due.is("length", herd.told(0, 2), k + 1);
            Due.is("the last, its number", herd.log(0, k, 1), 1 + k);
            Due.is("the last, its a", herd.log(0, k, 3), k);
            Due.is("the first", herd.log(0, 0, 1), 1);
        }
        HerdMasters empty = new HerdMasters(3);
        Due.is("nothing in it", empty.log(0, 0, 0), BAD);
        order(empty, 0, 3, 1, 0);
        Due.is("behind an empty log", empty.log(0, 0, 0), 3);
    }

    private static void thisViewOrLess() {
        HerdMasters herd = new HerdMasters(5);
        herd.up(1, false);
        herd.change(2, 40);
        Due.is("a first order", order(herd, 2, 0, 1, 40), 0);
        herd.up(1, true);
        herd.change(3, 1);
        told(herd, 0, 3, 2, 1, 0);
        told(herd, 1, 0, 0, 0, 0);
        told(herd, 4, 2, 2, 1, 1);
        Due.is("an order to 2", order(herd, 2, 0, 2, 40), 1);
        told(herd, 0, 3, 2, 1, 0);
        told(herd, 1, 2, 2, 2, 1);
        told(herd, 2, 2, 2, 2, 2);
        told(herd, 3, 3, 2, 1, 0);
        told(herd, 4, 2, 2, 2, 1);
        HerdMasters own = new HerdMasters(5);
        own.change(4, 40);
        order(own, 4, 0, 1, 4);
        own.up(4, false);
        own.change(0, 40);
        own.up(4, true);
        told(own, 4, 4, 4, 1, 1);
        Due.is("4 takes view and log, and the greater number of orders done", order(own, 0, 0, 2, 7), 1);
        told(own, 4, 5, 5, 2, 2);
        keepsItsNumberDone();
    }

    private static void keepsItsNumberDone() {
        HerdMasters herd = new HerdMasters(5);
        order(herd, 0, 0, 1, 4);
        herd.up(0, false);
        herd.change(1, 40);
        herd.up(0, true);
        told(herd, 0, 0, 0, 1, 1);
        told(herd, 1, 1, 1, 1, 0);
        Due.is("0 is told first", order(herd, 1, 0, 2, 1), OPEN);
        told(herd, 0, 1, 1, 2, 1);
        told(herd, 1, 1, 1, 2, 0);
    }

    private static void oneMessageBack() {
        HerdMasters herd = new HerdMasters(3);
        Due.is("the message back is lost", order(herd, 0, 0, 1, 1), OPEN);
        Due.is("the message back is brought", order(herd, 0, 0, 2, 2), 1);
        HerdMasters old = new HerdMasters(3);
        old.link(0, 1, false);
        old.link(0, 2, false);
        old.change(1, 40);
        old.link(0, 1, true);
        old.link(0, 2, true);
        int before = old.count(1);
        Due.is("none comes back from a greater view", order(old, 0, 0, 1, 40), OPEN);
        Due.is("two messages there", old.count(1), before + 2);
        told(old, 0, 0, 0, 1, 0);
        told(old, 1, 1, 1, 0, 0);
    }

    private static void moreThanHalf() {
        HerdMasters three = new HerdMasters(3);
        three.up(1, false);
        three.up(2, false);
        Due.is("one of three", order(three, 0, 0, 1, 40), OPEN);
        three.up(2, true);
        Due.is("two of three", order(three, 0, 0, 2, 40), 1);
        HerdMasters five = new HerdMasters(5);
        five.up(2, false);
        five.up(3, false);
        five.up(4, false);
        Due.is("two of five, and of those up all", order(five, 0, 0, 1, 40), OPEN);
        told(five, 0, 0, 0, 1, 0);
        five.up(4, true);
        Due.is("three of five", order(five, 0, 0, 2, 40), 1);
        told(five, 0, 0, 0, 2, 2);
        Due.is("the second message back lost", order(five, 0, 0, 3, 3), OPEN);
        Due.is("the second message back brought", order(five, 0, 0, 4, 4), 3);
    }

    private static void allTheLog() {
        HerdMasters herd = new HerdMasters(3);
        for (int k = 1; k <= 4; k++) {
            Due.is("open", order(herd, 0, 0, k, k % 2), OPEN);
        }
        told(herd, 0, 0, 0, 4, 0);
        Due.is("the fifth worker", order(herd, 0, 0, 5, 2), 4);
        told(herd, 0, 0, 0, 5, 5);
        for (int k = 1; k <= 5; k++) {
            Due.is("the answer to " + k, order(herd, 0, 0, k, 0), k - 1);
        }
    }

    private static void othersAreStillTold() {
        HerdMasters herd = new HerdMasters(5);
        Due.is("all are told", order(herd, 0, 0, 1, 40), 0);
        int[] done = {1, 0, 0, 1, 1};
        for (int m = 0; m < 5; m++) {
            told(herd, m, 0, 0, 1, done[m]);
        }
        Due.is("eight messages", herd.count(1), 8);
        HerdMasters cut = new HerdMasters(5);
        Due.is("one more than makes it done", order(cut, 0, 0, 1, 5), 0);
        told(cut, 3, 0, 0, 1, 1);
        told(cut, 4, 0, 0, 0, 0);
        HerdMasters three = new HerdMasters(3);
        order(three, 0, 0, 1, 40);
        told(three, 1, 0, 0, 1, 0);
        told(three, 2, 0, 0, 1, 1);
    }

    private static void elseOpen() {
        int[] enough = {2, 4};
        for (int i = 0; i < SIZES.length; i++) {
            for (int messages = 0; messages <= 8; messages++) {
                HerdMasters herd = new HerdMasters(SIZES[i]);
                int due = messages >= enough[i] ? 0 : OPEN;
                Due.is(SIZES[i] + " masters, " + messages + " messages", order(herd, 0, 0, 1, messages), due);
                Due.is("answers given", herd.count(2), due == OPEN ? 0 : 1);
            }
        }
    }

    private static void clients() {
        HerdMasters herd = new HerdMasters(3);
        for (int client = 0; client < 4; client++) {
            Due.is("client " + client, order(herd, 0, client, 7, 40), client);
            Due.is("in the log", herd.log(0, client, 0), client);
        }
    }

    private static void numbers() {
        HerdMasters herd = new HerdMasters(3);
        Due.is("number 1", order(herd, 0, 0, 1, 40), 0);
        Due.is("number 1,000", order(herd, 0, 0, 1000, 40), 1);
        Due.is("in the log", herd.log(0, 0, 1), 1);
        Due.is("in the log", herd.log(0, 1, 1), 1000);
        Due.isRefused("no number is above it", herd, () -> order(herd, 0, 0, 999, 40), NOT_HERE);
    }

    private static void noSuchClient() {
        HerdMasters herd = new HerdMasters(3);
        for (int client : new int[] {MIN, -1, 4, MAX}) {
            Due.isRefused("client " + client, herd, () -> order(herd, 0, client, 1, 40), BAD);
            Due.isRefused("and no leader", herd, () -> order(herd, 1, client, 1, 40), BAD);
        }
        Due.is("client 3", order(herd, 0, 3, 1, 40), 0);
        Due.is("client 0", order(herd, 0, 0, 1, 40), 1);
    }

    private static void noSuchNumber() {
        HerdMasters herd = new HerdMasters(3);
        for (int number : new int[] {MIN, -1, 0, 1001, MAX}) {
            Due.isRefused("number " + number, herd, () -> order(herd, 0, 0, number, 40), BAD);
            Due.isRefused("and no leader", herd, () -> order(herd, 2, 0, number, 40), BAD);
        }
        Due.is("number 1", order(herd, 0, 0, 1, 40), 0);
        Due.is("number 1,000", order(herd, 0, 0, 1000, 40), 1);
        Due.isRefused("a number above all, though none can come", herd, () -> order(herd, 0, 0, 1001, 40), BAD);
    }

    private static void noSuchMaster() {
        for (int n : SIZES) {
            HerdMasters herd = new HerdMasters(n);
            for (int master : new int[] {MIN, -1, n, 2 * n, MAX}) {
                Due.isRefused("master " + master, herd, () -> order(herd, master, 0, 1, 40), BAD);
            }
            Due.is("master 0", order(herd, 0, 0, 1, 40), 0);
            Due.is("master n - 1, which does not lead", order(herd, n - 1, 0, 2, 40), NOT_HERE);
            herd.change(n - 1, 40);
            Due.is("master n - 1, which leads", order(herd, n - 1, 0, 2, 40), 1);
        }
    }

    private static void otherMessages() {
        HerdMasters herd = new HerdMasters(3);
        for (int messages : new int[] {MIN, -1, 41, MAX}) {
            Due.isRefused(messages + " messages", herd, () -> order(herd, 0, 0, 1, messages), BAD);
            Due.isRefused("and no leader", herd, () -> order(herd, 1, 0, 1, messages), BAD);
        }
        Due.is("0 messages", order(herd, 0, 0, 1, 0), OPEN);
        Due.is("40 messages", order(herd, 0, 0, 2, 40), 1);
        Due.isRefused("an order that is done, 41 messages", herd, () -> order(herd, 0, 0, 2, 41), BAD);
        Due.is("0 messages", order(herd, 0, 0, 2, 0), 1);
        herd.up(0, false);
        Due.isRefused("down, 41 messages", herd, () -> order(herd, 0, 0, 3, 41), BAD);
    }
}
