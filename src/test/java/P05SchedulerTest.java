/** Promise 5: order, as the scheduler answers it (orders 0 .. 7, others, and PLACING). */
final class P05SchedulerTest {
    public static void main(String[] args) {
        quotas();
        workers();
        tasks();
        outputs();
        cancelling();
        leases();
        standings();
        otherKinds();
        P05SchedulerTest placing = new P05SchedulerTest();
        placing.order();
        placing.waitsForTheTaskBefore();
        placing.quota();
        placing.quotaIsSeenBeforeGivingWay();
        placing.bestFit();
        placing.fewestGiveWay();
        placing.whoGivesWay();
        placing.equalsDoNotGiveWay();
        placing.notEnoughGiveWay();
        placing.whoGaveWayIsNotBegunAgain();
        placing.noMoreLeaveThanMust();
        placing.nineteenGiveWay();
        placing.sixWorkersAndTwentyTasks();
        Due.end();
    }

    private static void quotas() {
        Client client = Client.ofNewHerd(3);
        Due.is("quota 0 of user 0", client.quota(0, 0), 1);
        Due.is("quota 60 of user 3", client.quota(3, 60), 1);
        Due.is("quota 61", client.quota(0, 61), 0);
        Due.is("quota - 1", client.quota(0, -1), 0);
        Due.is("user 4", client.quota(4, 10), 0);
        Due.is("user - 1", client.quota(-1, 10), 0);
        Due.is("user MAX", client.quota(Integer.MAX_VALUE, 10), 0);
    }

    private static void workers() {
        Client client = Client.ofNewHerd(3);
        Due.is("capacity 0", client.addWorker(0), -1);
        Due.is("capacity 21", client.addWorker(21), -1);
        Due.is("capacity - 5", client.addWorker(-5), -1);
        for (int k = 0; k < 6; k++) {
            Due.is("worker " + k, client.addWorker(k == 0 ? 1 : 20), k);
        }
        Due.is("a seventh", client.addWorker(5), -1);
    }

    private static void tasks() {
        Client client = Client.ofNewHerd(3);
        Due.is("behind itself", client.addTask(0, 1, 0, 0), -1);
        Due.is("the least", client.addTask(0, 1, 0, -1), 0);
        Due.is("the most", client.addTask(3, 20, 3, 0), 1);
        int[][] wrong = {
            {-1, 1, 0, -1}, {4, 1, 0, -1}, {0, 0, 0, -1}, {0, 21, 0, -1}, {0, 1, -1, -1}, {0, 1, 4, -1},
            {0, 1, 0, -2}, {0, 1, 0, 2}, {0, 1, 0, 20}, {0, 1, 0, Integer.MAX_VALUE}, {0, 1, 0, Integer.MIN_VALUE}};
        for (int[] w : wrong) {
            Due.is("task " + w[0] + " " + w[1] + " " + w[2] + " " + w[3], client.addTask(w[0], w[1], w[2], w[3]), -1);
        }
        for (int k = 2; k < 20; k++) {
            Due.is("task " + k, client.addTask(0, 1, 0, k - 1), k);
        }
        Due.is("a twenty-first", client.addTask(0, 1, 0, -1), -1);
    }

    private static void outputs() {
        Client client = Client.withWorkers(10);
        client.addTask(0, 4, 0, -1);
        Due.is("it waits", client.output(0, 0, 9), 0);
        client.placing();
        Due.is("another attempt", client.output(0, 0, 9), 0);
        Due.is("a later attempt", client.output(0, 2, 9), 0);
        Due.is("none such", client.output(1, 1, 9), 0);
        Due.is("none such", client.output(-1, 1, 9), 0);
        client.endLease(0);
        Due.is("it waits again", client.output(0, 1, 9), 0);
        client.placing();
        Due.is("the attempt before", client.output(0, 1, 9), 0);
        Due.is("the last attempt", client.output(0, 2, -7), 1);
        Due.is("its output", client.herd.task(0, 0, 3), -7);
        Due.is("once more", client.output(0, 2, 8), 0);
        Due.is("its output stays", client.herd.task(0, 0, 3), -7);
        Due.is("its room is free", client.herd.worker(0, 0, 1), 10);
        client.stand("finished", 2002);
        Due.is("a finished task is not begun", client.placing(), 0);
    }

    private static void cancelling() {
        Client client = Client.withWorkers(10);
        client.addTask(0, 4, 0, -1);
        client.addTask(0, 5, 0, -1);
        client.addTask(0, 5, 0, -1);
        Due.is("two begun", client.placing(), 2);
        Due.is("one that waits", client.cancel(2), 1);
        Due.is("one that runs", client.cancel(0), 1);
        Due.is("one that is cancelled", client.cancel(0), 0);
        client.output(1, 1, 5);
        Due.is("one that is finished", client.cancel(1), 0);
        Due.is("none such", client.cancel(3), 0);
        Due.is("none such", client.cancel(-1), 0);
        client.stand("cancelled", 3001, 2001, 3000);
        Due.is("room is free", client.herd.worker(0, 0, 1), 10);
        Due.is("no output of a cancelled one", client.output(0, 1, 5), 0);
        Due.is("cancelled ones are not begun", client.placing(), 0);
    }

    private static void leases() {
        Client client = Client.withWorkers(10, 3);
        client.addTask(0, 4, 0, -1);
        client.addTask(0, 5, 0, -1);
        client.addTask(0, 3, 0, -1);
        Due.is("three begun", client.placing(), 3);
        Due.is("none such", client.endLease(2), 0);
        Due.is("none such", client.endLease(-1), 0);
        Due.is("two ran there", client.endLease(0), 2);
        client.stand("after the lease", 1, 1, 1001);
        Due.is("none runs there", client.endLease(0), 0);
        Due.is("the worker is there still", client.herd.worker(0, 0, 1), 10);
        Due.is("begun again", client.placing(), 2);
        client.stand("begun again", 1002, 1002, 1001);
    }

    private static void standings() {
        Client client = Client.withWorkers(10);
        client.addTask(0, 4, 0, -1);
        Due.is("it waits", client.standing(0), 0);
        client.placing();
        Due.is("it runs", client.standing(0), 1001);
        client.endLease(0);
        Due.is("it waits, attempt 1", client.standing(0), 1);
        client.placing();
        client.output(0, 2, 3);
        Due.is("it is finished", client.standing(0), 2002);
        client.addTask(0, 4, 0, -1);
        client.cancel(1);
        Due.is("it is cancelled", client.standing(1), 3000);
        Due.is("none such", client.standing(2), -1);
        Due.is("none such", client.standing(-1), -1);
        Due.is("none such", client.standing(20), -1);
    }

    private static void otherKinds() {
        Client client = Client.ofNewHerd(3);
        int[] kinds = {8, 9, -1, 100, Integer.MAX_VALUE, Integer.MIN_VALUE};
        for (int kind : kinds) {
            Due.is("kind " + kind, client.order(kind, 1, 1, 1, 1), -1);
        }
        Due.is("they are in the log", client.herd.told(0, 2), kinds.length);
        Due.is("they are answers", client.herd.count(2), kinds.length);
    }

    private void order() {
        Client client = Client.withWorkers(10);
        client.addTask(0, 4, 1, -1);
        client.addTask(0, 4, 3, -1);
        client.addTask(0, 4, 1, -1);
        client.addTask(0, 4, 3, -1);
        Due.is("two of the greater priority", client.placing(), 2);
        client.stand("greater priority", 0, 1001, 0, 1001);
        client.cancel(1);
        Due.is("then the lesser number", client.placing(), 1);
        client.stand("lesser number", 1001, 3001, 0, 1001);
    }

    private void waitsForTheTaskBefore() {
        Client client = Client.withWorkers(20);
        client.addTask(0, 1, 0, -1);
        client.addTask(0, 1, 3, 0);
        client.addTask(0, 1, 3, 1);
        Due.is("the first alone", client.placing(), 1);
        Due.is("it runs, which is not enough", client.placing(), 0);
        client.output(0, 1, 5);
        Due.is("the second", client.placing(), 1);
        client.cancel(1);
        Due.is("behind a cancelled one none begins", client.placing(), 0);
        client.stand("in a row", 2001, 3001, 0);
    }

    private void quota() {
        Client client = Client.ofNewHerd(3);
        client.addWorker(20);
        client.addTask(2, 5, 0, -1);
        client.addTask(2, 3, 0, -1);
        client.addTask(2, 2, 0, -1);
        client.addTask(1, 1, 0, -1);
        Due.is("quota 0 at first", client.placing(), 0);
        client.quota(2, 7);
        Due.is("up to the quota", client.placing(), 2);
        client.stand("quota", 1001, 0, 1001, 0);
        Due.is("used", client.herd.used(0, 2), 7);
        client.quota(2, 9);
        Due.is("one less than needed", client.placing(), 0);
        client.quota(2, 10);
        Due.is("all of it", client.placing(), 1);
        client.quota(2, 1);
        Due.is("a lesser quota stops none", client.herd.used(0, 2), 10);
        Due.is("agree", client.herd.agree(), true);
        client.cancel(2);
        client.addTask(2, 1, 3, -1);
        Due.is("but none begins", client.placing(), 0);
        Due.is("agree", client.herd.agree(), true);
    }

    /** What would give way is still running when the quota is looked at. */
    private void quotaIsSeenBeforeGivingWay() {
        Client client = Client.ofNewHerd(3);
        client.quota(0, 6);
        client.addWorker(5);
        client.addTask(0, 5, 0, -1);
        Due.is("begun", client.placing(), 1);
        client.addTask(0, 5, 3, -1);
        Due.is("5 and 5 are above 6", client.placing(), 0);
        client.quota(0, 10);
        Due.is("at most 10", client.placing(), 1);
        client.stand("gave way", 1, 1001);
    }

    private void bestFit() {
        Client client = Client.withWorkers(9, 6, 8, 6);
        client.addTask(0, 7, 3, -1);
        client.addTask(0, 6, 2, -1);
        client.addTask(0, 2, 1, -1);
        client.addTask(0, 6, 1, -1);
        client.addTask(0, 1, 0, -1);
        Due.is("all begun", client.placing(), 5);
        client.runOn("best fit", 2, 1, 3, 0, 2);
        int[] free = {3, 0, 0, 4};
        for (int w = 0; w < 4; w++) {
            Due.is("free on " + w, client.herd.worker(0, w, 1), free[w]);
        }
        Client great = Client.withWorkers(20, 19, 20, 19);
        great.addTask(0, 1, 0, -1);
        great.addTask(0, 19, 0, -1);
        great.addTask(0, 20, 0, -1);
        Due.is("all three", great.placing(), 3);
        great.runOn("of the greatest", 1, 3, 0);
    }

    private void fewestGiveWay() {
        Client client = Client.withWorkers(6, 6, 6);
        int[] needs = {2, 4, 6, 6};
        for (int need : needs) {
            client.addTask(0, need, 0, -1);
        }
        Due.is("all begun", client.placing(), 4);
        client.runOn("full", 0, 0, 1, 2);
        client.addTask(1, 5, 2, -1);
        Due.is("one more", client.placing(), 1);
        Due.is("two would leave worker 0, one leaves worker 1", client.herd.task(0, 4, 2), 1);
        client.stand("fewest", 1001, 1001, 1, 1001, 1001);
        client.addTask(1, 3, 1, -1);
        Due.is("one from worker 0: task 1", client.placing(), 1);
        client.runOn("the lesser worker", 0, -1, -1, 2, 1, 0);
    }

    private void whoGivesWay() {
        Client client = Client.withWorkers(10);
        int[] priorities = {1, 0, 2, 0, 1};
        for (int priority : priorities) {
            client.addTask(0, 2, priority, -1);
        }
        Due.is("all begun", client.placing(), 5);
        client.addTask(1, 1, 3, -1);
        client.placing();
        client.stand("lowest, greatest number", 1001, 1001, 1001, 1, 1001, 1001);
        Due.is("no more left than was needed", client.herd.worker(0, 0, 1), 1);
        client.cancel(3);
        client.addTask(1, 4, 2, -1);
        client.placing();
        client.stand("then the next", 1001, 1, 1001, 3001, 1, 1001, 1001);
        client.addTask(1, 3, 2, -1);
        Due.is("2 of lower priority and 1 free", client.placing(), 1);
        client.stand("the last one of lower priority", 1, 1, 1001, 3001, 1, 1001, 1001, 1001);
    }

    private void equalsDoNotGiveWay() {
        Client client = Client.withWorkers(4);
        client.addTask(0, 4, 2, -1);
        client.placing();
        client.addTask(1, 1, 2, -1);
        client.addTask(1, 1, 1, -1);
        Due.is("none of equal or greater priority leaves", client.placing(), 0);
        client.stand("equals", 1001, 0, 0);
        client.addTask(1, 1, 3, -1);
        Due.is("a lower one does, which leaves room for all but itself", client.placing(), 3);
        client.stand("lower", 1, 1001, 1001, 1001);
    }

    private void notEnoughGiveWay() {
        Client client = Client.withWorkers(6, 3);
        client.addTask(0, 3, 3, -1);
        client.addTask(0, 6, 0, -1);
        Due.is("both", client.placing(), 2);
        client.runOn("both", 1, 0);
        client.addTask(0, 7, 3, -1);
        Due.is("no worker is so great", client.placing(), 0);
        client.stand("none left for nothing", 1001, 1001, 0);
        client.cancel(2);
        client.addTask(0, 2, 1, -1);
        Due.is("where there is nothing to leave, none is asked", client.placing(), 1);
        client.runOn("from the worker with lower ones", 1, -1, -1, 0);
    }

    /** When both have left, there is room for the smaller one: it may come in with the next placing. */
    private void whoGaveWayIsNotBegunAgain() {
        Client client = Client.withWorkers(7);
        client.addTask(0, 6, 0, -1);
        client.addTask(0, 1, 0, -1);
        Due.is("both", client.placing(), 2);
        client.addTask(1, 3, 1, -1);
        Due.is("one", client.placing(), 1);
        client.stand("both gave way", 1, 1, 1001);
        Due.is("free", client.herd.worker(0, 0, 1), 4);
        Due.is("the next placing", client.placing(), 1);
        client.stand("the smaller one is back", 1, 1002, 1001);
    }

    private void noMoreLeaveThanMust() {
        Client client = Client.withWorkers(9);
        for (int k = 0; k < 3; k++) {
            client.addTask(0, 3, 0, -1);
        }
        Due.is("three", client.placing(), 3);
        client.addTask(1, 6, 1, -1);
        Due.is("one for two", client.placing(), 1);
        client.stand("just room enough", 1001, 1, 1, 1001);
    }

    private void nineteenGiveWay() {
        Client client = Client.withWorkers(20);
        for (int k = 0; k < 19; k++) {
            client.addTask(0, 1, 2, -1);
        }
        Due.is("nineteen", client.placing(), 19);
        Due.is("the twentieth task", client.addTask(1, 20, 3, -1), 19);
        Due.is("one for nineteen", client.placing(), 1);
        Due.is("nothing is free", client.herd.worker(0, 0, 1), 0);
        Due.is("none else runs", client.herd.used(0, 0), 0);
        Due.is("it runs", client.herd.used(0, 1), 20);
        Due.is("its lease ends", client.endLease(0), 1);
        Due.is("all but it have room again when it is cancelled", client.cancel(19) + client.placing(), 20);
    }

    private void sixWorkersAndTwentyTasks() {
        Client client = Client.withWorkers(5, 5, 5, 5, 5, 5);
        for (int k = 0; k < 20; k++) {
            client.addTask(k % 4, 5, k < 18 ? 0 : 3, k == 17 ? 16 : -1);
        }
        Due.is("six at once", client.placing(), 6);
        client.runOn("six at once", 2, 3, 4, 5, -1);
        Due.is("the last task", client.herd.task(0, 19, 2), 1);
        Due.is("the last worker", client.endLease(5), 1);
        Due.is("one waits for none of the six", client.placing(), 1);
        Due.is("used", client.herd.used(0, 3), 10);
        Due.is("agree", client.herd.agree(), true);
    }
}
