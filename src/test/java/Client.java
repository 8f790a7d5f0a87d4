/** A client that brings its orders, numbered from 1 on, to one master. */
final class Client {
    final HerdMasters herd;
    final int id;
    int master;
    int number = 0;
    int messages = 40;

    Client(HerdMasters herd, int id, int master) {
        this.herd = herd;
        this.id = id;
        this.master = master;
    }

    static Client ofNewHerd(int n) {
        return new Client(new HerdMasters(n), 0, 0);
    }

    /** Of three masters, with the greatest quota for each user and a worker of each capacity. */
    static Client withWorkers(int... capacities) {
        Client client = ofNewHerd(3);
        for (int user = 0; user < 4; user++) {
            client.quota(user, 60);
        }
        for (int capacity : capacities) {
            client.addWorker(capacity);
        }
        return client;
    }

    int order(int kind, int a, int b, int c, int d) {
        number++;
        return herd.order(master, id, number, kind, a, b, c, d, messages);
    }

    int quota(int user, int quota) {
        return order(0, user, quota, 0, 0);
    }

    int addWorker(int capacity) {
        return order(1, capacity, 0, 0, 0);
    }

    int addTask(int user, int need, int priority, int before) {
        return order(2, user, need, priority, before);
    }

    int placing() {
        return order(3, 0, 0, 0, 0);
    }

    int output(int task, int attempt, int output) {
        return order(4, task, attempt, output, 0);
    }

    int cancel(int task) {
        return order(5, task, 0, 0, 0);
    }

    int endLease(int worker) {
        return order(6, worker, 0, 0, 0);
    }

    int standing(int task) {
        return order(7, task, 0, 0, 0);
    }

    /** How tasks 0, 1, .. stand at its master, as order 7 would say it. */
    void stand(String name, int... due) {
        for (int k = 0; k < due.length; k++) {
            Due.is(name + ": task " + k, 1000 * herd.task(master, k, 0) + herd.task(master, k, 1), due[k]);
        }
    }

    /** On which workers tasks 0, 1, .. run at its master. */
    void runOn(String name, int... due) {
        for (int k = 0; k < due.length; k++) {
            Due.is(name + ": worker of task " + k, herd.task(master, k, 2), due[k]);
        }
    }
}
