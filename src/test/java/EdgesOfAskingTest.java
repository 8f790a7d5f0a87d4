/** The boundaries of what can be asked: promises 6 to 12. */
final class EdgesOfAskingTest {
    private static final int BAD = HerdMasters.BAD;
    private static final int OPEN = HerdMasters.OPEN;
    private static final int NOT_HERE = HerdMasters.NOT_HERE;
    private static final int[] SIZES = {3, 5};
    private static final int MIN = Integer.MIN_VALUE;
    private static final int MAX = Integer.MAX_VALUE;

    static final Edges EDGES = new Edges()
        .in("Promise 6: told")
        .add("Of a master: 0 its view, 1 the view in which it was last normal, 2 the length of its log, "
            + "3 orders that it knows to be done", EdgesOfAskingTest::toldOfAMaster)
        .add("4 whether it is up (1 or 0).", EdgesOfAskingTest::toldWhetherItIsUp)
        .add("BAD: none such.", EdgesOfAskingTest::toldOfNoneSuch)
        .in("Promise 7: log")
        .add("Of order k of a master's log: 0 client, 1 number, 2 kind, 3 .. 6 its numbers.", EdgesOfAskingTest::logOfAnOrder)
        .add("BAD: none such.", EdgesOfAskingTest::logOfNoneSuch)
        .in("Promise 8: task")
        .add("The scheduler as a master knows it", EdgesOfAskingTest::taskAsThatMasterKnowsIt)
        .add("of task k: 0 how it stands, 1 its attempt", EdgesOfAskingTest::taskStanding)
        .add("2 its worker (BAD, if it does not run)", EdgesOfAskingTest::taskWorker)
        .add("3 its output (0, if it is not finished).", EdgesOfAskingTest::taskOutput)
        .add("BAD: none such.", EdgesOfAskingTest::taskOfNoneSuch)
        .in("Promise 9: worker")
        .add("The same: of worker k: 0 its capacity, 1 what is free of it.", EdgesOfAskingTest::workerNoneToAllIsFree)
        .add("BAD: none such.", EdgesOfAskingTest::workerOfNoneSuch)
        .in("Promise 10: used")
        .add("How much of a user's quota is used, as a master knows it.", EdgesOfAskingTest::usedNoneToAll)
        .add("BAD: none such.", EdgesOfAskingTest::usedOfNoneSuch)
        .in("Promise 11: agree")
        .add("THE THEOREM.", EdgesOfAskingTest::theTheorem)
        .add("of each two masters the orders that both know to be done are the same", EdgesOfAskingTest::bothKnowToBeDone)
        .add("no worker has more than its capacity", EdgesOfAskingTest::capacityIsNotPassed)
        .add("no user more than the quota", EdgesOfAskingTest::quotaIsNotPassed)
        .add("or than what was begun under a greater one", EdgesOfAskingTest::begunUnderAGreaterOne)
        .add("no answer that was given was other than what the longest row of orders done gives at that order.",
            EdgesOfAskingTest::answersStand)
        .in("Promise 12: count")
        .add("0 masters", EdgesOfAskingTest::countMasters)
        .add("1 messages brought in all", EdgesOfAskingTest::countMessages)
        .add("2 answers given in all (not - 3, not - 2)", EdgesOfAskingTest::countAnswers)
        .add("3 the greatest view.", EdgesOfAskingTest::countGreatestView)
        .add("BAD: another number.", EdgesOfAskingTest::countOfAnother);

    public static void main(String[] args) {
        EDGES.run();
    }

    private static int order(HerdMasters herd, int master, int number, int messages) {
        return herd.order(master, 0, number, 1, 5, 0, 0, 0, messages);
    }

    private static void told(HerdMasters herd, int master, int... due) {
        for (int what = 0; what < due.length; what++) {
            Due.is("told(" + master + ", " + what + ")", herd.told(master, what), due[what]);
        }
    }

    private static void toldOfAMaster() {
        HerdMasters herd = new HerdMasters(3);
        told(herd, 0, 0, 0, 0, 0);
        order(herd, 0, 1, 40);
        order(herd, 0, 2, 1);
        told(herd, 0, 0, 0, 2, 1);
        told(herd, 1, 0, 0, 2, 1);
        told(herd, 2, 0, 0, 1, 1);
        herd.change(2, 2);
        told(herd, 2, 2, 2, 2, 1);
        told(herd, 0, 2, 0, 2, 1);
        told(herd, 1, 0, 0, 2, 1);
    }

    private static void toldWhetherItIsUp() {
        for (int n : SIZES) {
            HerdMasters herd = new HerdMasters(n);
            for (int m : new int[] {0, n - 1}) {
                Due.is("up", herd.told(m, 4), 1);
                herd.up(m, false);
                Due.is("down", herd.told(m, 4), 0);
                Due.is("the one beside it", herd.told(1, 4), 1);
                herd.up(m, true);
                Due.is("up again", herd.told(m, 4), 1);
            }
        }
    }

    private static void toldOfNoneSuch() {
        for (int n : SIZES) {
            HerdMasters herd = new HerdMasters(n);
            for (int m : new int[] {MIN, -1, n, MAX}) {
                Due.isRefused("told(" + m + ", 4)", herd, () -> herd.told(m, 4), BAD);
            }
            for (int what : new int[] {MIN, -1, 5, MAX}) {
                Due.isRefused("told(0, " + what + ")", herd, () -> herd.told(0, what), BAD);
            }
            Due.is("told(n - 1, 4)", herd.told(n - 1, 4), 1);
            Due.is("told(0, 0)", herd.told(0, 0), 0);
        }
    }

    private static void logOfAnOrder() {
        HerdMasters herd = new HerdMasters(3);
        int[][] orders = {{0, 1, 0, 3, 60, 0, 0}, {3, 1000, MIN, MAX, MIN, -1, 0}, {2, 500, 8, -2, -3, -4, MAX}};
        for (int[] o : orders) {
            herd.order(0, o[0], o[1], o[2], o[3], o[4], o[5], o[6], 40);
        }
        for (int k = 0; k < 3; k++) {
            for (int what = 0; what <= 6; what++) {
                Due.is("log(2, " + k + ", " + what + ")", herd.log(2, k, what), orders[k][what]);
            }
        }
    }

    private static void logOfNoneSuch() {
        HerdMasters herd = new HerdMasters(3);
        Due.isRefused("of an empty log", herd, () -> herd.log(0, 0, 0), BAD);
        for (int length = 1; length <= 60; length++) {
            int behind = length;
            herd.order(0, 3, length, 8, 0, 0, 0, 0, 1);
            Due.is("the last of " + length, herd.log(0, length - 1, 1), length);
            Due.isRefused("the one behind " + length, herd, () -> herd.log(0, behind, 1), BAD);
        }
        Due.isRefused("2 was told of none", herd, () -> herd.log(2, 0, 0), BAD);
        for (int none : new int[] {MIN, -1, 60, 61, MAX}) {
            Due.isRefused("order " + none, herd, () -> herd.log(0, none, 0), BAD);
        }
        for (int none : new int[] {MIN, -1, 7, MAX}) {
            Due.isRefused("what " + none, herd, () -> herd.log(0, 59, none), BAD);
            Due.isRefused("master " + none, herd, () -> herd.log(none, 0, 0), BAD);
        }
        Due.isRefused("master 3", herd, () -> herd.log(3, 0, 0), BAD);
        Due.is("order 0, what 0", herd.log(0, 0, 0), 3);
        Due.is("order 59, what 6", herd.log(0, 59, 6), 0);
    }

    /** Tasks 0 to 3 run on worker 1, wait, are finished with output 77, and are cancelled. */
    private static Client ofEachKind() {
        Client client = Client.withWorkers(2, 9);
        client.addTask(0, 4, 0, -1);
        client.addTask(0, 9, 0, -1);
        client.addTask(1, 3, 0, -1);
        client.addTask(1, 2, 0, -1);
        Due.is("three begun", client.placing(), 3);
        client.output(2, 1, 77);
        client.cancel(3);
        return client;
    }

    private static void taskAsThatMasterKnowsIt() {
        Client client = Client.withWorkers(5);
        HerdMasters herd = client.herd;
        client.messages = 1;
        Due.is("open", client.addTask(0, 1, 0, -1), OPEN);
        for (int m = 0; m < 3; m++) {
            Due.is("none knows of it, not " + m, herd.task(m, 0, 0), BAD);
        }
        client.messages = 40;
        Due.is("with a second one it is done", client.addTask(0, 1, 0, -1), 1);
        Due.is("0 knows", herd.task(0, 0, 0), 0);
        Due.is("1 does not", herd.task(1, 0, 0), BAD);
        Due.is("2 knows", herd.task(2, 0, 0), 0);
        client.placing();
        Due.is("0 knows that it runs", herd.task(0, 0, 0), 1);
        Due.is("1 is one order behind", herd.task(1, 0, 0), 0);
        Due.is("2 knows that it runs", herd.task(2, 0, 0), 1);
    }

    private static void taskStanding() {
        HerdMasters herd = ofEachKind().herd;
        int[] standing = {1, 0, 2, 3};
        int[] attempts = {1, 0, 1, 1};
        for (int k = 0; k < 4; k++) {
            Due.is("how " + k + " stands", herd.task(0, k, 0), standing[k]);
            Due.is("attempt of " + k, herd.task(0, k, 1), attempts[k]);
        }
    }

    private static void taskWorker() {
        Client client = ofEachKind();
        Due.is("it runs", client.herd.task(0, 0, 2), 1);
        Due.isRefused("it waits", client.herd, () -> client.herd.task(0, 1, 2), BAD);
        Due.isRefused("it is finished", client.herd, () -> client.herd.task(0, 2, 2), BAD);
        Due.isRefused("it is cancelled", client.herd, () -> client.herd.task(0, 3, 2), BAD);
        client.addTask(1, 2, 0, -1);
        client.placing();
        Due.is("on worker 0", client.herd.task(0, 4, 2), 0);
        client.endLease(0);
        Due.is("it waits after it ran", client.herd.task(0, 4, 2), BAD);
    }

    private static void taskOutput() {
        Client client = ofEachKind();
        Due.is("it runs", client.herd.task(0, 0, 3), 0);
        Due.is("it waits", client.herd.task(0, 1, 3), 0);
        Due.is("it is finished", client.herd.task(0, 2, 3), 77);
        Due.is("it is cancelled", client.herd.task(0, 3, 3), 0);
        Due.is("an output that does not count", client.output(0, 2, 55), 0);
        Due.is("leaves none", client.herd.task(0, 0, 3), 0);
        client.output(0, 1, MIN);
        Due.is("the least", client.herd.task(0, 0, 3), MIN);
        client.placing();
        client.output(1, 1, -1);
        Due.is("- 1 is an output", client.herd.task(0, 1, 3), -1);
    }

    private static void taskOfNoneSuch() {
        Client client = Client.ofNewHerd(3);
        HerdMasters herd = client.herd;
        Due.isRefused("there is none", herd, () -> herd.task(0, 0, 0), BAD);
        for (int k = 0; k < 20; k++) {
            int behind = k + 1;
            client.addTask(0, 1, 0, -1);
            Due.is("the last", herd.task(0, k, 0), 0);
            Due.isRefused("the one behind it", herd, () -> herd.task(0, behind, 0), BAD);
        }
        for (int none : new int[] {MIN, -1, 20, 21, MAX}) {
            Due.isRefused("task " + none, herd, () -> herd.task(0, none, 0), BAD);
        }
        for (int none : new int[] {MIN, -1, 4, MAX}) {
            Due.isRefused("what " + none, herd, () -> herd.task(0, 0, none), BAD);
            Due.isRefused("master " + none, herd, () -> herd.task(none, 0, 0), BAD);
        }
        Due.isRefused("master 3", herd, () -> herd.task(3, 0, 0), BAD);
        Due.is("task 19, what 3, master 2", herd.task(2, 19, 3), 0);
    }

    private static void workerNoneToAllIsFree() {
        Client client = Client.withWorkers(1, 20);
        HerdMasters herd = client.herd;
        Due.is("capacity 1", herd.worker(0, 0, 0), 1);
        Due.is("all is free", herd.worker(0, 0, 1), 1);
        Due.is("capacity 20", herd.worker(0, 1, 0), 20);
        Due.is("all is free", herd.worker(0, 1, 1), 20);
        client.addTask(0, 1, 0, -1);
        client.addTask(0, 19, 0, -1);
        client.placing();
        Due.is("nothing is free", herd.worker(0, 0, 1), 0);
        Due.is("1 is free", herd.worker(0, 1, 1), 1);
        Due.is("1 knows all to be free", herd.worker(1, 1, 1), 20);
        client.addTask(1, 1, 0, -1);
        client.placing();
        Due.is("nothing is free", herd.worker(0, 1, 1), 0);
        Due.is("1 knows 1 to be free", herd.worker(1, 1, 1), 1);
        client.endLease(1);
        Due.is("all is free", herd.worker(0, 1, 1), 20);
        Due.is("the capacity stays", herd.worker(0, 1, 0), 20);
    }

    private static void workerOfNoneSuch() {
        Client client = Client.ofNewHerd(3);
        HerdMasters herd = client.herd;
        Due.isRefused("there is none", herd, () -> herd.worker(0, 0, 0), BAD);
        for (int k = 0; k < 6; k++) {
            int behind = k + 1;
            client.addWorker(7);
            Due.is("the last", herd.worker(0, k, 1), 7);
            Due.isRefused("the one behind it", herd, () -> herd.worker(0, behind, 0), BAD);
        }
        for (int none : new int[] {MIN, -1, 6, MAX}) {
            Due.isRefused("worker " + none, herd, () -> herd.worker(0, none, 0), BAD);
        }
        for (int none : new int[] {MIN, -1, 2, MAX}) {
            Due.isRefused("what " + none, herd, () -> herd.worker(0, 0, none), BAD);
        }
        for (int none : new int[] {MIN, -1, 3, MAX}) {
            Due.isRefused("master " + none, herd, () -> herd.worker(none, 0, 0), BAD);
        }
        Due.is("worker 5, what 1, master 2", herd.worker(2, 5, 1), 7);
    }

    private static void usedNoneToAll() {
        Client client = Client.withWorkers(20, 20, 20);
        HerdMasters herd = client.herd;
        for (int k = 0; k < 3; k++) {
            client.addTask(3, 20, 0, -1);
        }
        Due.is("nothing", herd.used(0, 3), 0);
        client.placing();
        Due.is("all 60 of 60", herd.used(0, 3), 60);
        Due.is("1 knows of none", herd.used(1, 3), 0);
        Due.is("2 knows of 60", herd.used(2, 3), 60);
        Due.is("of another user", herd.used(0, 0), 0);
        client.quota(3, 0);
        Due.is("60 of 0, begun under a greater one", herd.used(0, 3), 60);
        client.output(0, 1, 5);
        client.cancel(1);
        client.endLease(2);
        Due.is("finished, cancelled and waiting ones use nothing", herd.used(0, 3), 0);
    }

    private static void usedOfNoneSuch() {
        HerdMasters herd = new HerdMasters(3);
        for (int none : new int[] {MIN, -1, 4, MAX}) {
            Due.isRefused("user " + none, herd, () -> herd.used(0, none), BAD);
        }
        for (int none : new int[] {MIN, -1, 3, MAX}) {
            Due.isRefused("master " + none, herd, () -> herd.used(none, 0), BAD);
        }
        Due.is("user 0, master 0", herd.used(0, 0), 0);
        Due.is("user 3, master 2", herd.used(2, 3), 0);
    }

    /** Whatever fails between two messages: orders and changes that end behind each message, with each master down. */
    private static void theTheorem() {
        Due.is("new, three", new HerdMasters(3).agree(), true);
        Due.is("new, five", new HerdMasters(5).agree(), true);
        for (int down = 0; down < 5; down++) {
            for (int messages = 0; messages <= 10; messages++) {
                HerdMasters herd = new HerdMasters(5);
                order(herd, 0, 1, messages);
                herd.up(down, false);
                for (int m = 0; m < 5; m++) {
                    herd.change(m, messages);
                    order(herd, m, 2 + m, 10 - messages);
                    Due.is("agree, without " + down + ", with " + messages, herd.agree(), true);
                }
                herd.up(down, true);
                herd.change(down, 40);
                order(herd, down, 10, 40);
                Due.is("agree, with " + down + " again", herd.agree(), true);
            }
        }
    }

    /** Of each two masters one order is made another: at the last that both know to be done, and behind it. */
    private static void bothKnowToBeDone() throws ReflectiveOperationException {
        int[] done = {3, 2, 3};
        for (int m = 0; m < 3; m++) {
            for (int k = 0; k < 3; k++) {
                HerdMasters herd = new HerdMasters(3);
                for (int number = 1; number <= 3; number++) {
                    order(herd, 0, number, 40);
                }
                told(herd, m, 0, 0, 3, done[m]);
                Due.is("agree", herd.agree(), true);
                Object another = Inside.get(herd, "masters " + m + " entries " + (k == 0 ? 1 : 0));
                Inside.setPlace(herd, "masters " + m + " entries", k, another);
                Due.is("order " + k + " of " + m + " is another", herd.agree(), k >= done[m]);
            }
        }
        HerdMasters lacking = new HerdMasters(3);
        order(lacking, 0, 1, 40);
        Inside.set(lacking, "masters 0 length", 0);
        Due.is("an order that both know to be done, and one has not", lacking.agree(), false);
        HerdMasters open = new HerdMasters(3);
        open.link(0, 1, false);
        open.link(0, 2, false);
        order(open, 0, 1, 40);
        open.change(1, 40);
        open.order(1, 1, 1, 1, 9, 0, 0, 0, 40);
        Due.is("orders differ that one alone knows to be done", open.log(0, 0, 3) == open.log(1, 0, 3), false);
        Due.is("agree", open.agree(), true);
    }

    /** User 0 has quota 10, of which 9 are used, on a worker of capacity 12; each master knows it. */
    private static Client nineOfTen() {
        Client client = Client.ofNewHerd(3);
        client.quota(0, 10);
        client.addWorker(12);
        client.addTask(0, 5, 0, -1);
        client.addTask(0, 4, 0, -1);
        Due.is("both begun", client.placing(), 2);
        client.standing(0);
        Due.is("agree", client.herd.agree(), true);
        return client;
    }

    private static void capacityIsNotPassed() throws ReflectiveOperationException {
        for (int m = 0; m < 3; m++) {
            HerdMasters herd = nineOfTen().herd;
            String capacity = "masters " + m + " scheduler capacities 0";
            Inside.set(herd, capacity, 9);
            Due.is("9 of 9, at " + m, herd.agree(), true);
            Inside.set(herd, capacity, 8);
            Due.is("9 of 8, at " + m, herd.agree(), false);
        }
        Client full = Client.withWorkers(20);
        full.addTask(0, 20, 0, -1);
        full.placing();
        Due.is("20 of 20", full.herd.agree(), true);
    }

    private static void quotaIsNotPassed() throws ReflectiveOperationException {
        for (int m = 0; m < 3; m++) {
            HerdMasters herd = nineOfTen().herd;
            String need = "masters " + m + " scheduler tasks 0 need";
            Inside.set(herd, need, 6);
            Due.is("10 of 10, at " + m, herd.agree(), true);
            Inside.set(herd, need, 7);
            Due.is("11 of 10, at " + m, herd.agree(), false);
        }
        Client full = Client.withWorkers(20, 20, 20);
        for (int k = 0; k < 3; k++) {
            full.addTask(2, 20, 0, -1);
        }
        full.placing();
        Due.is("60 of 60", full.herd.used(0, 2), 60);
        Due.is("agree", full.herd.agree(), true);
    }

    private static void begunUnderAGreaterOne() throws ReflectiveOperationException {
        for (int quota : new int[] {9, 8, 0}) {
            Client client = nineOfTen();
            client.quota(0, quota);
            Due.is("9 of " + quota, client.herd.agree(), true);
            Inside.set(client.herd, "masters 0 scheduler tasks 0 need", 6);
            Due.is("10, more than was begun", client.herd.agree(), false);
        }
        Client client = nineOfTen();
        client.quota(0, 3);
        client.output(0, 1, 7);
        Due.is("4 of 3", client.herd.agree(), true);
        client.quota(0, 3);
        Inside.set(client.herd, "masters 0 scheduler tasks 1 need", 5);
        Due.is("5, when 4 were left of what was begun", client.herd.agree(), false);
    }

    private static void answersStand() throws ReflectiveOperationException {
        HerdMasters herd = nineOfTen().herd;
        int[] answers = {1, 0, 0, 1, 2, 1001};
        for (int k = 0; k < 6; k++) {
            Inside.set(herd, "given answers " + k, answers[k] + 1);
            Due.is("another answer was given to order " + k, herd.agree(), false);
            Inside.set(herd, "given answers " + k, answers[k]);
            Due.is("the answer that it gives", herd.agree(), true);
        }
        Inside.setPlace(herd, "given isGiven", 6, true);
        Due.is("an answer was given where no order is done", herd.agree(), false);
        HerdMasters twice = new HerdMasters(3);
        order(twice, 0, 1, 40);
        order(twice, 0, 1, 40);
        Due.is("an answer was given twice", twice.agree(), true);
        Inside.set(twice, "masters 0 answers 0", 5);
        Due.is("and once more, another", order(twice, 0, 1, 40), 5);
        Due.is("of the two one was other", twice.agree(), false);
        HerdMasters told = new HerdMasters(3);
        Due.is("0 alone knows it done", order(told, 0, 1, 2), 0);
        told.up(0, false);
        told.change(1, 40);
        Due.is("the answer stands by the longest row, that of one that is down", told.agree(), true);
        Due.is("the next worker is another", order(told, 1, 2, 40), 1);
        Due.is("agree", told.agree(), true);
    }

    private static void countMasters() {
        Due.is("three", new HerdMasters(3).count(0), 3);
        Due.is("five", new HerdMasters(5).count(0), 5);
        Due.is("of 4", new HerdMasters(4).count(0), 3);
        HerdMasters down = new HerdMasters(5);
        down.up(4, false);
        Due.is("down ones, too", down.count(0), 5);
    }

    private static void countMessages() {
        HerdMasters herd = new HerdMasters(3);
        Due.is("none", herd.count(1), 0);
        order(herd, 0, 1, 0);
        Due.is("an order is none", herd.count(1), 0);
        order(herd, 0, 2, 1);
        Due.is("one there", herd.count(1), 1);
        order(herd, 0, 3, 2);
        Due.is("and one back", herd.count(1), 3);
        order(herd, 0, 4, 40);
        Due.is("not those that might have been", herd.count(1), 7);
        herd.change(1, 40);
        Due.is("of a change", herd.count(1), 11);
        herd.change(1, 41);
        order(herd, 1, 1001, 40);
        order(herd, 0, 5, 40);
        order(herd, 1, 4, 40);
        Due.is("none of a refused call, none of an answer that was there", herd.count(1), 11);
        herd.link(0, 1, false);
        herd.change(0, 1);
        herd.link(0, 1, true);
        Due.is("one of a change that is open", herd.count(1), 12);
        order(herd, 1, 5, 40);
        Due.is("and two to those of a greater view", herd.count(1), 14);
    }

    private static void countAnswers() {
        HerdMasters herd = new HerdMasters(3);
        Due.is("none", herd.count(2), 0);
        Due.is("an answer", order(herd, 0, 5, 40), 0);
        Due.is("one", herd.count(2), 1);
        Due.is("- 1 of the scheduler", herd.order(0, 0, 6, 8, 0, 0, 0, 0, 40), -1);
        Due.is("two", herd.count(2), 2);
        Due.is("the answer that it had", order(herd, 0, 5, 40), 0);
        Due.is("three", herd.count(2), 3);
        Due.is("- 2", order(herd, 0, 7, 1), OPEN);
        Due.is("- 3: not done", order(herd, 0, 7, 40), NOT_HERE);
        Due.is("- 3: a greater one", order(herd, 0, 4, 40), NOT_HERE);
        Due.is("- 3: not the leader", order(herd, 1, 8, 40), NOT_HERE);
        Due.is("a view is no answer to an order", herd.change(1, 40), 1);
        Due.is("BAD: no order was brought", order(herd, 1, 0, 40), BAD);
        Due.is("three still", herd.count(2), 3);
        Due.is("an answer", order(herd, 1, 8, 2), 2);
        Due.is("four", herd.count(2), 4);
    }

    private static void countGreatestView() {
        HerdMasters herd = new HerdMasters(5);
        Due.is("0 at first", herd.count(3), 0);
        herd.change(4, 0);
        Due.is("of one that is not normal", herd.count(3), 4);
        herd.up(4, false);
        Due.is("of one that is down", herd.count(3), 4);
        herd.change(1, 40);
        Due.is("not the last one", herd.count(3), 4);
        herd.change(0, 0);
        Due.is("of the first alone", herd.count(3), 5);
    }

    private static void countOfAnother() {
        HerdMasters herd = new HerdMasters(5);
        for (int what : new int[] {MIN, -1, 4, MAX}) {
            Due.isRefused("count(" + what + ")", herd, () -> herd.count(what), BAD);
        }
        Due.is("count(0)", herd.count(0), 5);
        Due.is("count(3)", herd.count(3), 0);
    }
}
