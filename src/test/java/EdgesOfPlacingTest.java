/** The boundaries of PLACING: each clause of its sentences in "Terms". */
final class EdgesOfPlacingTest {
    static final Edges EDGES = new Edges()
        .in("Terms")
        .add("PLACING goes once through the tasks", EdgesOfPlacingTest::goesOnceThrough)
        .add("that wait at its beginning", EdgesOfPlacingTest::thatWaitAtItsBeginning)
        .add("greater priority first", EdgesOfPlacingTest::greaterPriorityFirst)
        .add("then lesser number", EdgesOfPlacingTest::thenLesserNumber)
        .add("one whose task before it (if any) is finished", EdgesOfPlacingTest::taskBeforeIsFinished)
        .add("that with all running ones of its user needs at most the quota", EdgesOfPlacingTest::atMostTheQuota)
        .add("the quota (0 at first)", EdgesOfPlacingTest::quotaAtFirst)
        .add("is begun on the worker with the least free capacity", EdgesOfPlacingTest::leastFreeCapacity)
        .add("that is enough", EdgesOfPlacingTest::thatIsEnough)
        .add("of those the lesser one. If there is none", EdgesOfPlacingTest::lesserOfThoseWithRoom)
        .add("If there is none: on the worker", EdgesOfPlacingTest::onlyIfThereIsNone)
        .add("from which the fewest tasks must GIVE WAY", EdgesOfPlacingTest::fewestGiveWay)
        .add("of those the lesser one: tasks", EdgesOfPlacingTest::lesserOfThoseToClear)
        .add("tasks of lower priority", EdgesOfPlacingTest::ofLowerPriority)
        .add("the lowest first", EdgesOfPlacingTest::lowestFirst)
        .add("of those the greatest number first", EdgesOfPlacingTest::greatestNumberFirst)
        .add("until there is room", EdgesOfPlacingTest::untilThereIsRoom)
        .add("they wait then. Begun", EdgesOfPlacingTest::theyWaitThen)
        .add("Begun, its attempt is one more.", EdgesOfPlacingTest::attemptIsOneMore);

    public static void main(String[] args) {
        EDGES.run();
    }

    /** A task of user 0 behind none. */
    private static int add(Client client, int need, int priority) {
        return client.addTask(0, need, priority, -1);
    }

    /** A task was passed over for its quota; that its user's tasks give way later does not bring it back. */
    private static void goesOnceThrough() {
        Client client = Client.withWorkers(6);
        client.quota(1, 6);
        client.addTask(1, 3, 0, -1);
        client.addTask(1, 3, 0, -1);
        Due.is("both run", client.placing(), 2);
        client.addTask(1, 2, 3, -1);
        client.addTask(2, 4, 2, -1);
        Due.is("user 1 is at its quota, user 2 makes both give way", client.placing(), 1);
        client.stand("passed over, and not come back to", 1, 1, 0, 1001);
        Due.is("free", client.herd.worker(0, 0, 1), 2);
        Due.is("the next placing", client.placing(), 1);
        client.stand("then", 1, 1, 1001, 1001);
    }

    private static void thatWaitAtItsBeginning() {
        Client client = Client.withWorkers(7);
        add(client, 6, 0);
        add(client, 1, 0);
        Due.is("both wait, both begin", client.placing(), 2);
        Due.is("those that run are not begun", client.placing(), 0);
        add(client, 3, 1);
        Due.is("one", client.placing(), 1);
        client.stand("task 1 gave way, and had room again, but waited later", 1, 1, 1001);
        Due.is("it waits at the beginning of the next", client.placing(), 1);
        client.stand("so it begins", 1, 1002, 1001);
        client.output(1, 2, 5);
        client.cancel(0);
        Due.is("neither finished nor cancelled ones", client.placing(), 0);
    }

    /** Each two neighbouring priorities, the greater one behind: room for one alone. */
    private static void greaterPriorityFirst() {
        for (int priority = 1; priority <= 3; priority++) {
            Client client = Client.withWorkers(5);
            add(client, 5, priority - 1);
            add(client, 5, priority);
            Due.is("one begins", client.placing(), 1);
            client.stand("priority " + priority, 0, 1001);
        }
        Client all = Client.withWorkers(5, 5, 5, 5);
        for (int priority = 0; priority <= 3; priority++) {
            add(all, 5, priority);
        }
        Due.is("all begin", all.placing(), 4);
        all.runOn("the greater on the lesser worker", 3, 2, 1, 0);
    }

    private static void thenLesserNumber() {
        Client client = Client.withWorkers(5);
        add(client, 5, 2);
        add(client, 5, 2);
        Due.is("one begins", client.placing(), 1);
        client.stand("the lesser", 1001, 0);
        client.endLease(0);
        Due.is("one begins", client.placing(), 1);
        client.stand("the lesser again, though it had its attempt", 1002, 0);
        Client all = Client.withWorkers(20);
        for (int k = 0; k < 20; k++) {
            add(all, 2, 1);
        }
        Due.is("ten have room", all.placing(), 10);
        for (int k = 0; k < 20; k++) {
            Due.is("task " + k, all.herd.task(0, k, 0), k < 10 ? 1 : 0);
        }
    }

    private static void taskBeforeIsFinished() {
        Client client = Client.withWorkers(3);
        client.quota(1, 0);
        client.addTask(1, 1, 0, -1);
        client.addTask(0, 1, 3, 0);
        Due.is("it waits", client.placing(), 0);
        client.quota(1, 1);
        Due.is("it is begun, the other not behind it", client.placing(), 1);
        Due.is("it runs", client.placing(), 0);
        client.endLease(0);
        client.quota(1, 0);
        Due.is("it waits again", client.placing(), 0);
        client.quota(1, 1);
        client.placing();
        client.output(0, 2, 0);
        Due.is("it is finished", client.placing(), 1);
        client.stand("both", 2002, 1001);
        client.addTask(0, 1, 0, 0);
        Due.is("a later one behind a finished one", client.placing(), 1);
        client.addTask(0, 1, 0, 2);
        client.cancel(2);
        Due.is("it is cancelled", client.placing(), 0);
        client.addTask(0, 1, 0, -1);
        Due.is("none is before it", client.placing(), 1);
        Due.is("so it runs", client.herd.task(0, 4, 0), 1);
    }

    private static void atMostTheQuota() {
        Client client = Client.withWorkers(20);
        client.quota(1, 7);
        client.addTask(1, 8, 0, -1);
        Due.is("8 of 7", client.placing(), 0);
        client.cancel(0);
        client.addTask(1, 5, 0, -1);
        client.addTask(1, 3, 0, -1);
        client.addTask(1, 2, 0, -1);
        Due.is("5, not 3, and 2 are 7 of 7", client.placing(), 2);
        client.stand("at most", 3000, 1001, 0, 1001);
        client.quota(1, 9);
        Due.is("10 of 9", client.placing(), 0);
        client.addTask(2, 10, 0, -1);
        Due.is("another user's do not count", client.placing(), 1);
        client.quota(1, 6);
        Due.is("a quota below what runs", client.placing(), 0);
        client.output(1, 1, 5);
        Due.is("a finished one does not count: 5 of 6", client.placing(), 1);
        client.stand("5 of 6", 3000, 2001, 1001, 1001, 1001);
        client.addTask(1, 1, 0, -1);
        client.addTask(1, 1, 0, -1);
        Due.is("6 of 6, and not 7", client.placing(), 1);
        client.cancel(3);
        Due.is("a cancelled one does not count", client.placing(), 1);
        Due.is("5 of 6", client.herd.used(0, 1), 5);
        client.endLease(0);
        Due.is("those that wait do not count", client.placing(), 4);
        runningOnesThatWouldGiveWay();
    }

    private static void runningOnesThatWouldGiveWay() {
        Client client = Client.withWorkers(5);
        client.quota(1, 9);
        client.addTask(1, 5, 0, -1);
        client.placing();
        client.addTask(1, 5, 3, -1);
        Due.is("all running ones count, those that would give way, too: 10 of 9", client.placing(), 0);
        client.quota(1, 10);
        Due.is("10 of 10", client.placing(), 1);
        client.stand("it gave way", 1, 1001);
    }

    private static void quotaAtFirst() {
        for (int user = 0; user < 4; user++) {
            Client client = Client.ofNewHerd(3);
            client.addWorker(20);
            client.addTask(user, 1, 3, -1);
            Due.is("quota 0 at first", client.placing(), 0);
            client.quota(user, 1);
            Due.is("quota 1", client.placing(), 1);
        }
    }

    private static void leastFreeCapacity() {
        Client client = Client.withWorkers(9, 8, 10);
        add(client, 3, 0);
        Due.is("begun", client.placing(), 1);
        client.runOn("on 8 of 9, 8, 10", 1);
        add(client, 6, 0);
        Due.is("begun", client.placing(), 1);
        client.runOn("5 are free there now: on 9", 1, 0);
        add(client, 4, 0);
        Due.is("begun", client.placing(), 1);
        client.runOn("on 5 of 3, 5, 10", 1, 0, 1);
        Client last = Client.withWorkers(20, 20, 20, 20, 20, 19);
        add(last, 1, 0);
        last.placing();
        last.runOn("on the last, 19 of 20", 5);
        Client first = Client.withWorkers(19, 20, 20, 20, 20, 20);
        add(first, 1, 0);
        first.placing();
        first.runOn("on the first, 19 of 20", 0);
    }

    private static void thatIsEnough() {
        Client client = Client.withWorkers(4, 5, 6);
        add(client, 5, 0);
        client.placing();
        client.runOn("5 needs 5, 4 is not enough", 1);
        add(client, 5, 0);
        client.placing();
        client.runOn("then 6", 1, 2);
        add(client, 5, 0);
        Due.is("then none", client.placing(), 0);
        Client great = Client.withWorkers(19, 20);
        add(great, 20, 0);
        great.placing();
        great.runOn("20 needs 20", 1);
        add(great, 20, 0);
        Due.is("19 is not enough", great.placing(), 0);
        add(great, 19, 0);
        Due.is("for 19 it is", great.placing(), 1);
        great.runOn("19 needs 19", 1, -1, 0);
    }

    private static void lesserOfThoseWithRoom() {
        Client client = Client.withWorkers(8, 6, 6, 6);
        add(client, 2, 0);
        client.placing();
        client.runOn("1 of 1, 2, 3", 1);
        add(client, 5, 0);
        client.placing();
        client.runOn("2 of 2, 3", 1, 2);
        add(client, 7, 0);
        add(client, 1, 0);
        client.placing();
        client.runOn("0 of 0, 2, with 1 free each", 1, 2, 0, 0);
    }

    private static void onlyIfThereIsNone() {
        Client client = Client.withWorkers(4, 20);
        add(client, 4, 0);
        client.placing();
        client.runOn("on worker 0", 0);
        add(client, 4, 3);
        Due.is("begun", client.placing(), 1);
        client.runOn("there is room on worker 1, so none gives way", 0, 1);
        add(client, 16, 3);
        client.placing();
        client.runOn("just room", 0, 1, 1);
        add(client, 1, 3);
        Due.is("now there is none", client.placing(), 1);
        client.runOn("so one gives way", -1, 1, 1, 0);
    }

    private static void fewestGiveWay() {
        Client client = Client.withWorkers(6, 6, 6);
        for (int need : new int[] {6, 3, 3, 2, 2, 2}) {
            add(client, need, 0);
        }
        Due.is("all begin", client.placing(), 6);
        client.runOn("one, two and three", 0, 1, 1, 2, 2, 2);
        client.addTask(1, 6, 1, -1);
        client.placing();
        Due.is("one of 0, rather than two or three", client.herd.task(0, 6, 2), 0);
        client.stand("one", 1, 1001, 1001, 1001, 1001, 1001);
        client.addTask(1, 6, 1, -1);
        client.placing();
        Due.is("two of 1, rather than three", client.herd.task(0, 7, 2), 1);
        client.stand("two", 1, 1, 1, 1001, 1001, 1001);
        client.addTask(1, 6, 1, -1);
        client.placing();
        Due.is("three of 2, for no other can", client.herd.task(0, 8, 2), 2);
        client.stand("three", 1, 1, 1, 1, 1, 1);
        fewestBehindTheFirst();
        allButOneGiveWay();
        fewestOnTheLastWorker();
    }

    private static void fewestBehindTheFirst() {
        Client client = Client.withWorkers(5, 5);
        for (int need : new int[] {3, 2, 5}) {
            add(client, need, 0);
        }
        client.placing();
        client.runOn("two and one", 0, 0, 1);
        client.addTask(1, 4, 1, -1);
        client.placing();
        Due.is("one of 1, rather than two of 0", client.herd.task(0, 3, 2), 1);
        client.stand("one", 1001, 1001, 1);
        client.addTask(1, 2, 1, -1);
        client.placing();
        Due.is("one of 0, for those of 1 are not lower", client.herd.task(0, 4, 2), 0);
        client.stand("one more", 1001, 1, 1, 1001);
    }

    /** As many as can ever give way at once: nineteen of twenty tasks. */
    private static void allButOneGiveWay() {
        Client client = Client.withWorkers(20);
        for (int k = 0; k < 19; k++) {
            add(client, 1, 2);
        }
        Due.is("nineteen begin", client.placing(), 19);
        client.addTask(1, 20, 3, -1);
        Due.is("one for nineteen", client.placing(), 1);
        Due.is("it runs", client.herd.used(0, 1), 20);
        Due.is("none of the nineteen does", client.herd.used(0, 0), 0);
    }

    private static void fewestOnTheLastWorker() {
        Client client = Client.withWorkers(2, 2, 2, 2, 2, 3);
        for (int k = 0; k < 5; k++) {
            add(client, 2, 3);
        }
        add(client, 3, 2);
        Due.is("all six are full", client.placing(), 6);
        client.addTask(1, 1, 2, -1);
        Due.is("none can", client.placing(), 0);
        client.addTask(1, 3, 3, -1);
        Due.is("the last alone can", client.placing(), 1);
        client.runOn("on the sixth", 0, 1, 2, 3, 4, -1, -1, 5);
    }

    private static void lesserOfThoseToClear() {
        Client client = Client.withWorkers(9, 5, 5, 5);
        add(client, 9, 3);
        for (int k = 0; k < 3; k++) {
            add(client, 5, 0);
        }
        Due.is("all begin", client.placing(), 4);
        client.runOn("one each", 0, 1, 2, 3);
        client.addTask(1, 5, 2, -1);
        client.placing();
        Due.is("1 of 1, 2, 3", client.herd.task(0, 4, 2), 1);
        client.addTask(1, 5, 2, -1);
        client.placing();
        Due.is("2 of 2, 3", client.herd.task(0, 5, 2), 2);
        client.stand("the last runs", 1001, 1, 1, 1001);
    }

    /** Each two priorities: the one that runs gives way to a greater one alone. */
    private static void ofLowerPriority() {
        for (int runs = 0; runs <= 3; runs++) {
            for (int comes = 0; comes <= 3; comes++) {
                Client client = Client.withWorkers(5);
                add(client, 5, runs);
                client.placing();
                client.addTask(1, 1, comes, -1);
                boolean gives = comes > runs;
                Due.is(comes + " comes where " + runs + " runs", client.placing(), gives ? 1 : 0);
                client.stand(comes + " comes", gives ? 1 : 1001, gives ? 1001 : 0);
            }
        }
        Client mixed = Client.withWorkers(6);
        add(mixed, 3, 2);
        add(mixed, 3, 1);
        mixed.placing();
        mixed.addTask(1, 4, 2, -1);
        Due.is("the lower one alone is not enough: 3 of 4", mixed.placing(), 0);
        mixed.stand("so none gives way", 1001, 1001, 0);
        mixed.addTask(1, 3, 2, -1);
        Due.is("3 of 3", mixed.placing(), 1);
        mixed.stand("the lower one gives way", 1001, 1, 0, 1001);
    }

    private static void lowestFirst() {
        Client client = Client.withWorkers(6);
        add(client, 2, 1);
        add(client, 2, 0);
        add(client, 2, 2);
        Due.is("all begin", client.placing(), 3);
        client.addTask(1, 2, 3, -1);
        client.placing();
        client.stand("0 before 1 and 2", 1001, 1, 1001, 1001);
        client.addTask(1, 2, 3, -1);
        client.placing();
        client.stand("1 before 2", 1, 1, 1001, 1001, 1001);
        client.addTask(1, 2, 3, -1);
        client.placing();
        client.stand("2 in the end", 1, 1, 1, 1001, 1001, 1001);
        Client small = Client.withWorkers(6);
        add(small, 1, 0);
        add(small, 5, 1);
        small.placing();
        small.addTask(1, 5, 2, -1);
        small.placing();
        small.stand("the lowest, though the next alone were enough", 1, 1, 1001);
    }

    private static void greatestNumberFirst() {
        Client client = Client.withWorkers(8);
        for (int k = 0; k < 4; k++) {
            add(client, 2, k == 1 ? 2 : 1);
        }
        Due.is("all begin", client.placing(), 4);
        client.addTask(1, 2, 3, -1);
        client.placing();
        client.stand("3 of 0, 2, 3", 1001, 1001, 1001, 1, 1001);
        client.addTask(1, 4, 3, -1);
        client.placing();
        client.stand("2, then 0", 1, 1001, 1, 1, 1001, 1001);
        client.addTask(1, 2, 3, -1);
        client.placing();
        client.stand("then 1, of greater priority", 1, 1, 1, 1, 1001, 1001, 1001);
        Client last = Client.ofNewHerd(3);
        last.quota(1, 60);
        last.addWorker(4);
        last.addTask(0, 2, 3, -1);
        last.addTask(1, 2, 0, -1);
        last.addTask(1, 2, 0, -1);
        Due.is("the last two run", last.placing(), 2);
        last.quota(0, 2);
        Due.is("the first comes", last.placing(), 1);
        last.stand("the last of all gives way", 1001, 1001, 1);
    }

    private static void untilThereIsRoom() {
        Client exact = Client.withWorkers(9);
        for (int k = 0; k < 3; k++) {
            add(exact, 3, 0);
        }
        exact.placing();
        exact.addTask(1, 6, 1, -1);
        exact.placing();
        exact.stand("6 of 6: two are enough", 1001, 1, 1, 1001);
        Client above = Client.withWorkers(9);
        for (int k = 0; k < 3; k++) {
            add(above, 3, 0);
        }
        above.placing();
        above.addTask(1, 7, 1, -1);
        above.placing();
        above.stand("6 of 7: the third, too", 1, 1, 1, 1001);
        Due.is("2 are free", above.herd.worker(0, 0, 1), 2);
        Client free = Client.withWorkers(9);
        add(free, 4, 0);
        add(free, 4, 0);
        free.placing();
        free.addTask(1, 5, 1, -1);
        free.placing();
        free.stand("1 was free, so one is enough", 1001, 1, 1001);
        Client small = Client.withWorkers(9);
        add(small, 9, 0);
        small.placing();
        small.addTask(1, 10, 3, -1);
        Due.is("where there never is room, none gives way", small.placing(), 0);
        small.stand("it runs", 1001, 0);
    }

    private static void theyWaitThen() {
        Client client = Client.withWorkers(5);
        add(client, 2, 0);
        add(client, 3, 1);
        client.placing();
        client.addTask(1, 5, 2, -1);
        Due.is("one for two", client.placing(), 1);
        client.stand("they wait, after one attempt", 1, 1, 1001);
        client.runOn("they have no worker", -1, -1, 0);
        Due.is("they use nothing", client.herd.used(0, 0), 0);
        Due.is("no output of the attempt that gave way", client.output(0, 1, 9), 0);
        client.output(2, 1, 9);
        Due.is("they are begun again", client.placing(), 2);
        client.stand("with one attempt more", 1002, 1002, 2001);
        client.addTask(0, 1, 3, 0);
        Due.is("behind one that waits or runs none begins", client.placing(), 0);
    }

    private static void attemptIsOneMore() {
        Client client = Client.withWorkers(5);
        add(client, 5, 0);
        add(client, 5, 1);
        client.stand("at first", 0, 0);
        client.placing();
        client.stand("begun, or not", 0, 1001);
        client.placing();
        client.stand("not begun again while it runs", 0, 1001);
        client.endLease(0);
        client.stand("not by the end of the lease", 0, 1);
        client.placing();
        client.stand("begun again", 0, 1002);
        client.cancel(1);
        client.placing();
        client.stand("not by being cancelled", 1001, 3002);
        add(client, 5, 3);
        client.placing();
        client.stand("not by giving way", 1, 3002, 1001);
    }
}
