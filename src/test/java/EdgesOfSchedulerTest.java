import java.util.function.IntUnaryOperator;

/** The boundaries of orders 0 to 7 and of others: "Terms" as far as them. */
final class EdgesOfSchedulerTest {
    private static final int MIN = Integer.MIN_VALUE;
    private static final int MAX = Integer.MAX_VALUE;

    static final Edges EDGES = new Edges()
        .in("Terms")
        .add("THE SCHEDULER is what orders that are done have made of it, one behind the other.",
            EdgesOfSchedulerTest::ordersThatAreDone)
        .add("ORDERS, with numbers a, b, c, d, answer:", EdgesOfSchedulerTest::numbersThatAreNotAskedFor)
        .add("0 user a (0 .. 3) has quota", EdgesOfSchedulerTest::usersOfQuotas)
        .add("has quota b (0 .. 60): 1, or 0: none such.", EdgesOfSchedulerTest::quotas)
        .add("1 a worker of capacity a (1 .. 20): which one", EdgesOfSchedulerTest::capacities)
        .add("or - 1: there are 6.", EdgesOfSchedulerTest::sixWorkers)
        .add("2 a task of user a", EdgesOfSchedulerTest::usersOfTasks)
        .add("that needs b (1 .. 20)", EdgesOfSchedulerTest::needs)
        .add("of priority c (0 .. 3)", EdgesOfSchedulerTest::priorities)
        .add("behind task d (- 1: none): which one, or - 1: none such", EdgesOfSchedulerTest::behindATaskOrNone)
        .add("none such, there are 20.", EdgesOfSchedulerTest::twentyTasks)
        .add("3 PLACING: how many were begun.", EdgesOfSchedulerTest::howManyWereBegun)
        .add("4 task a, attempt b, has output c: 1, if it runs", EdgesOfSchedulerTest::outputIfItRuns)
        .add("and that is its attempt", EdgesOfSchedulerTest::outputOfItsAttempt)
        .add("it is finished then; else 0.", EdgesOfSchedulerTest::finishedThen)
        .add("5 task a is cancelled: 1, if it waits or runs; else 0.", EdgesOfSchedulerTest::cancelled)
        .add("6 the lease of worker a has ended: how many tasks ran on it", EdgesOfSchedulerTest::howManyRanOnIt)
        .add("which wait then.", EdgesOfSchedulerTest::theyWaitThen)
        .add("7 how task a stands: 1,000 times 0 it waits, 1 runs, 2 is finished, 3 cancelled",
            EdgesOfSchedulerTest::howATaskStands)
        .add("and its attempt (0 at first)", EdgesOfSchedulerTest::attemptAtFirst)
        .add("- 1: none such. Others", EdgesOfSchedulerTest::noSuchTaskStands)
        .add("Others: - 1.", EdgesOfSchedulerTest::otherKinds);

    public static void main(String[] args) {
        EDGES.run();
    }

    /** What orders that are done have made of the scheduler of the leader. */
    private static String scheduler(Client client) throws ReflectiveOperationException {
        return Inside.picture(Inside.get(client.herd, "masters " + client.master + " scheduler"));
    }

    /** Orders that come into the log and are done, but answer so and make nothing of the scheduler. */
    private static void makeNothing(String name, Client client, IntUnaryOperator order, int want, int... numbers)
            throws ReflectiveOperationException {
        for (int number : numbers) {
            String before = scheduler(client);
            int done = client.herd.told(client.master, 3);
            Due.is(name + number, order.applyAsInt(number), want);
            Due.is(name + number + " changes nothing", scheduler(client).equals(before), true);
            Due.is(name + number + " is done", client.herd.told(client.master, 3), done + 1);
        }
    }

    private static void ordersThatAreDone() throws ReflectiveOperationException {
        Client client = Client.ofNewHerd(3);
        String before = scheduler(client);
        client.messages = 1;
        Due.is("not done", client.addWorker(5), HerdMasters.OPEN);
        Due.is("nothing is made of the scheduler", scheduler(client).equals(before), true);
        Due.is("no worker", client.herd.worker(0, 0, 0), HerdMasters.BAD);
        client.messages = 2;
        Due.is("behind the other", client.addWorker(6), 1);
        Due.is("the first", client.herd.worker(0, 0, 0), 5);
        Due.is("the second", client.herd.worker(0, 1, 0), 6);
        Due.is("1 has both and knows none to be done", client.herd.worker(1, 0, 0), HerdMasters.BAD);
    }

    private static void numbersThatAreNotAskedFor() {
        Client client = Client.ofNewHerd(3);
        int[] odd = {MIN, -1, 61, MAX};
        for (int k = 0; k < 4; k++) {
            Due.is("quota", client.order(0, k, 60, odd[k], odd[3 - k]), 1);
            Due.is("worker", client.order(1, 20, odd[k], odd[3 - k], odd[k]), k);
        }
        Due.is("task", client.order(2, 0, 1, 0, -1), 0);
        Due.is("placing", client.order(3, MIN, MAX, -1, 99), 1);
        Due.is("standing", client.order(7, 0, MAX, MIN, -1), 1001);
        Due.is("lease", client.order(6, 0, MAX, MIN, -1), 1);
        client.placing();
        Due.is("output", client.order(4, 0, 2, MIN, MAX), 1);
        Due.is("the output", client.herd.task(0, 0, 3), MIN);
        client.addTask(0, 1, 0, 0);
        Due.is("cancel", client.order(5, 1, MAX, MIN, -1), 1);
    }

    private static void usersOfQuotas() throws ReflectiveOperationException {
        Client client = Client.ofNewHerd(3);
        makeNothing("quota of user ", client, user -> client.quota(user, 10), 0, MIN, -1, 4, MAX);
        Due.is("user 0", client.quota(0, 10), 1);
        Due.is("user 3", client.quota(3, 10), 1);
        client.addWorker(20);
        for (int user = 0; user < 4; user++) {
            client.addTask(user, 1, 0, -1);
        }
        Due.is("they may begin", client.placing(), 2);
        client.stand("users 0 and 3", 1001, 0, 0, 1001);
    }

    private static void quotas() throws ReflectiveOperationException {
        Client client = Client.ofNewHerd(3);
        Due.is("quota 60", client.quota(0, 60), 1);
        makeNothing("quota ", client, quota -> client.quota(0, quota), 0, MIN, -1, 61, MAX);
        for (int k = 0; k < 4; k++) {
            client.addWorker(20);
            client.addTask(0, k < 3 ? 20 : 1, 0, -1);
        }
        Due.is("60 of 60, and not 61", client.placing(), 3);
        Due.is("used", client.herd.used(0, 0), 60);
        Due.is("quota 0", client.quota(0, 0), 1);
        client.endLease(0);
        client.endLease(1);
        client.endLease(2);
        Due.is("nothing of 0", client.placing(), 0);
        Due.is("quota 1", client.quota(0, 1), 1);
        Due.is("1 of 1", client.placing(), 1);
        client.stand("the least one", 1, 1, 1, 1001);
    }

    private static void capacities() throws ReflectiveOperationException {
        Client client = Client.ofNewHerd(3);
        makeNothing("capacity ", client, client::addWorker, -1, MIN, -1, 0, 21, MAX);
        Due.is("capacity 1", client.addWorker(1), 0);
        Due.is("capacity 20", client.addWorker(20), 1);
        Due.is("has 1", client.herd.worker(0, 0, 0), 1);
        Due.is("has 20", client.herd.worker(0, 1, 0), 20);
        Due.is("no third", client.herd.worker(0, 2, 0), HerdMasters.BAD);
    }

    private static void sixWorkers() throws ReflectiveOperationException {
        Client client = Client.ofNewHerd(3);
        for (int k = 0; k < 6; k++) {
            Due.is("worker " + k, client.addWorker(10 + k), k);
        }
        makeNothing("a seventh of capacity ", client, client::addWorker, -1, 1, 20, 0, 21);
        Due.is("the sixth", client.herd.worker(0, 5, 0), 15);
        Due.is("no seventh", client.herd.worker(0, 6, 0), HerdMasters.BAD);
    }

    private static void usersOfTasks() throws ReflectiveOperationException {
        Client client = Client.withWorkers(20);
        makeNothing("a task of user ", client, user -> client.addTask(user, 1, 0, -1), -1, MIN, -1, 4, MAX);
        Due.is("user 0", client.addTask(0, 1, 0, -1), 0);
        Due.is("user 3", client.addTask(3, 1, 0, -1), 1);
        client.placing();
        Due.is("used by 0", client.herd.used(0, 0), 1);
        Due.is("used by 3", client.herd.used(0, 3), 1);
    }

    private static void needs() throws ReflectiveOperationException {
        Client client = Client.withWorkers(20, 1);
        makeNothing("a task that needs ", client, need -> client.addTask(0, need, 0, -1), -1, MIN, -1, 0, 21, MAX);
        Due.is("needs 1", client.addTask(0, 1, 0, -1), 0);
        Due.is("needs 20", client.addTask(0, 20, 0, -1), 1);
        Due.is("both have room", client.placing(), 2);
        client.runOn("the one and the other", 1, 0);
    }

    private static void priorities() throws ReflectiveOperationException {
        Client client = Client.withWorkers(1);
        makeNothing("priority ", client, priority -> client.addTask(0, 1, priority, -1), -1, MIN, -1, 4, MAX);
        Due.is("priority 0", client.addTask(0, 1, 0, -1), 0);
        Due.is("priority 3", client.addTask(0, 1, 3, -1), 1);
        Due.is("one has room", client.placing(), 1);
        client.stand("the greater one", 0, 1001);
    }

    private static void behindATaskOrNone() throws ReflectiveOperationException {
        Client client = Client.withWorkers(5);
        makeNothing("behind (there is none) ", client, before -> client.addTask(0, 1, 0, before), -1, MIN, -2, 0, 1, MAX);
        Due.is("behind none", client.addTask(0, 1, 0, -1), 0);
        makeNothing("behind (there is 0) ", client, before -> client.addTask(0, 1, 0, before), -1, MIN, -2, 1, 19, 20, MAX);
        Due.is("behind 0", client.addTask(0, 1, 0, 0), 1);
        Due.is("behind 1", client.addTask(0, 1, 0, 1), 2);
        makeNothing("behind (there is 2) ", client, before -> client.addTask(0, 1, 0, before), -1, 3);
        client.cancel(0);
        Due.is("behind a cancelled one", client.addTask(0, 1, 0, 0), 3);
        Due.is("none can begin", client.placing(), 0);
        Due.is("behind none", client.addTask(0, 1, 0, -1), 4);
        Due.is("one can", client.placing(), 1);
    }

    private static void twentyTasks() throws ReflectiveOperationException {
        Client client = Client.ofNewHerd(3);
        for (int k = 0; k < 20; k++) {
            Due.is("task " + k, client.addTask(3, 20, 3, k - 1), k);
        }
        makeNothing("the 21st, behind ", client, before -> client.addTask(0, 1, 0, before), -1, -1, 0, 19, 20);
        client.cancel(7);
        makeNothing("nor when one is cancelled, behind ", client, before -> client.addTask(0, 1, 0, before), -1, -1);
        Due.is("the 20th", client.herd.task(0, 19, 0), 0);
        Due.is("no 21st", client.herd.task(0, 20, 0), HerdMasters.BAD);
    }

    private static void howManyWereBegun() {
        Client none = Client.withWorkers();
        Due.is("no task, no worker", none.placing(), 0);
        Due.is("a task", none.addTask(0, 1, 0, -1), 0);
        Due.is("no worker", none.placing(), 0);
        Due.is("a worker", none.addWorker(1), 0);
        Due.is("one", none.placing(), 1);
        Due.is("it runs already", none.placing(), 0);
        Client all = Client.withWorkers(20);
        for (int k = 0; k < 20; k++) {
            all.addTask(0, 1, k % 4, -1);
        }
        Due.is("all twenty", all.placing(), 20);
        Due.is("no more", all.placing(), 0);
    }

    /** Tasks 0 to 3 run, wait, are finished and are cancelled, all in their first attempt or, what waits, in none. */
    private static Client ofEachKind() {
        Client client = Client.withWorkers(9);
        client.addTask(0, 3, 0, -1);
        client.addTask(0, 9, 0, -1);
        client.addTask(0, 3, 0, -1);
        client.addTask(0, 3, 0, -1);
        Due.is("three begun", client.placing(), 3);
        Due.is("finished", client.output(2, 1, 55), 1);
        Due.is("cancelled", client.cancel(3), 1);
        client.stand("of each kind", 1001, 0, 2001, 3001);
        return client;
    }

    private static void outputIfItRuns() throws ReflectiveOperationException {
        Client client = ofEachKind();
        makeNothing("waits: attempt ", client, attempt -> client.output(1, attempt, 9), 0, 0, 1);
        makeNothing("is finished: attempt ", client, attempt -> client.output(2, attempt, 9), 0, 0, 1, 2);
        makeNothing("is cancelled: attempt ", client, attempt -> client.output(3, attempt, 9), 0, 0, 1, 2);
        makeNothing("none such: ", client, task -> client.output(task, 1, 9), 0, MIN, -1, 4, 20, MAX);
        makeNothing("none such, in no attempt: ", client, task -> client.output(task, 0, 9), 0, -1, 4, 19, 20);
        Due.is("runs", client.output(0, 1, 9), 1);
    }

    private static void outputOfItsAttempt() throws ReflectiveOperationException {
        Client client = ofEachKind();
        makeNothing("attempt 1 runs, of ", client, attempt -> client.output(0, attempt, 9), 0, MIN, -1, 0, 2, MAX);
        client.endLease(0);
        makeNothing("it waits after attempt ", client, attempt -> client.output(0, attempt, 9), 0, 0, 1, 2);
        client.placing();
        makeNothing("attempt 2 runs, of ", client, attempt -> client.output(0, attempt, 9), 0, 1, 3);
        Due.is("of 2", client.output(0, 2, 9), 1);
    }

    private static void finishedThen() throws ReflectiveOperationException {
        Client client = ofEachKind();
        Due.is("free before", client.herd.worker(0, 0, 1), 6);
        Due.is("used before", client.herd.used(0, 0), 3);
        Due.is("an output", client.output(0, 1, MAX), 1);
        client.stand("finished", 2001);
        Due.is("its output", client.herd.task(0, 0, 3), MAX);
        Due.is("free then", client.herd.worker(0, 0, 1), 9);
        Due.is("used then", client.herd.used(0, 0), 0);
        makeNothing("no second output: ", client, output -> client.output(0, 1, output), 0, 8);
        Due.is("what waited is begun", client.placing(), 1);
        Due.is("an output of 0", client.output(1, 1, 0), 1);
        client.stand("finished, too", 2001, 2001);
    }

    private static void cancelled() throws ReflectiveOperationException {
        Client client = ofEachKind();
        makeNothing("finished or cancelled: ", client, client::cancel, 0, 2, 3);
        makeNothing("none such: ", client, client::cancel, 0, MIN, -1, 4, 19, 20, MAX);
        Due.is("waits", client.cancel(1), 1);
        Due.is("runs", client.cancel(0), 1);
        client.stand("all", 3001, 3000, 2001, 3001);
        Due.is("its room is free", client.herd.worker(0, 0, 1), 9);
        makeNothing("cancelled already: ", client, client::cancel, 0, 0, 1);
        Due.is("none is begun any more", client.placing(), 0);
    }

    private static void howManyRanOnIt() throws ReflectiveOperationException {
        Client client = Client.withWorkers(20, 1);
        for (int k = 0; k < 20; k++) {
            client.addTask(0, 1, 0, -1);
        }
        Due.is("twenty on the two", client.placing(), 20);
        makeNothing("none such: ", client, client::endLease, 0, MIN, -1, 2, 5, 6, MAX);
        Due.is("19 on worker 0", client.endLease(0), 19);
        makeNothing("none any more on ", client, client::endLease, 0, 0);
        Due.is("1 on worker 1", client.endLease(1), 1);
        Due.is("begun again", client.placing(), 20);
        client.output(0, 2, 7);
        client.cancel(1);
        Due.is("those that ran on worker 1", client.endLease(1), 0);
        Due.is("without the cancelled one", client.endLease(0), 18);
    }

    private static void theyWaitThen() {
        Client client = Client.withWorkers(6, 2);
        client.addTask(0, 2, 0, -1);
        client.addTask(0, 3, 3, -1);
        client.addTask(1, 3, 0, -1);
        Due.is("three begun", client.placing(), 3);
        client.runOn("before", 1, 0, 0);
        Due.is("two on worker 0", client.endLease(0), 2);
        client.stand("they wait, the third runs", 1001, 1, 1);
        client.runOn("after", 1, -1, -1);
        Due.is("the worker is there, and free", client.herd.worker(0, 0, 1), 6);
        Due.is("used", client.herd.used(0, 0) + client.herd.used(0, 1), 2);
        Due.is("begun again", client.placing(), 2);
        client.stand("one attempt more", 1001, 1002, 1002);
    }

    private static void howATaskStands() {
        Client client = ofEachKind();
        Due.is("runs", client.standing(0), 1001);
        Due.is("waits", client.standing(1), 0);
        Due.is("is finished", client.standing(2), 2001);
        Due.is("cancelled", client.standing(3), 3001);
        client.cancel(1);
        Due.is("cancelled, without an attempt", client.standing(1), 3000);
    }

    private static void attemptAtFirst() {
        Client client = Client.withWorkers(3);
        client.addTask(0, 3, 0, -1);
        for (int attempt = 0; attempt < 18; attempt++) {
            Due.is("waits after " + attempt, client.standing(0), attempt);
            Due.is("begun", client.placing(), 1);
            Due.is("it ran", client.endLease(0), 1);
        }
        Due.is("told of it", client.herd.task(0, 0, 1), 18);
    }

    private static void noSuchTaskStands() throws ReflectiveOperationException {
        Client client = Client.withWorkers(3);
        makeNothing("there is none: ", client, client::standing, -1, MIN, -1, 0, 19, 20, MAX);
        client.addTask(0, 3, 0, -1);
        makeNothing("there is 0: ", client, client::standing, -1, -1, 1, 2);
        makeNothing("it waits: ", client, client::standing, 0, 0);
    }

    private static void otherKinds() throws ReflectiveOperationException {
        Client client = ofEachKind();
        makeNothing("kind ", client, kind -> client.order(kind, 0, 1, 1, -1), -1, MIN, -1, 8, 9, 1000, MAX);
        Due.is("kind 0", client.order(0, 0, 1, 1, -1), 1);
        Due.is("kind 7", client.order(7, 0, 1, 1, -1), 1001);
    }
}
