/** Promise 11: agree, which holds in every run, and tells when it does not hold. */
final class P11AgreeTest {
    public static void main(String[] args) throws ReflectiveOperationException {
        holdsWhereLogsDiffer();
        holdsWhenAQuotaWasLowered();
        otherOrders();
        tooMuchOnAWorker();
        tooMuchForAUser();
        anotherAnswer();
        Due.end();
    }

    private static void agrees(String name, HerdMasters herd, boolean due) {
        Due.is(name, herd.agree(), due);
    }

    private static void holdsWhereLogsDiffer() {
        HerdMasters herd = new HerdMasters(3);
        agrees("new", herd, true);
        herd.link(0, 1, false);
        herd.link(0, 2, false);
        herd.order(0, 0, 1, 1, 5, 0, 0, 0, 40);
        herd.change(1, 40);
        herd.order(1, 1, 1, 1, 9, 0, 0, 0, 40);
        Due.is("order 0 of 0", herd.log(0, 0, 3), 5);
        Due.is("order 0 of 1", herd.log(1, 0, 3), 9);
        agrees("what is not done may differ", herd, true);
        herd.link(0, 2, true);
        herd.change(2, 40);
        agrees("after all", herd, true);
    }

    private static void holdsWhenAQuotaWasLowered() {
        Client client = running(Client.ofNewHerd(5));
        client.quota(0, 3);
        Due.is("used", client.herd.used(0, 0), 9);
        agrees("begun under a greater one", client.herd, true);
        client.output(0, 1, 5);
        agrees("some of it ended", client.herd, true);
        client.quota(0, 0);
        agrees("lowered again", client.herd, true);
        client.cancel(1);
        client.placing();
        agrees("all of it ended", client.herd, true);
    }

    /** Two tasks of 5 and 4 of user 0, with quota 10, run on worker 0, with capacity 12. */
    private static Client running(Client client) {
        client.quota(0, 10);
        client.addWorker(12);
        client.addTask(0, 5, 0, -1);
        client.addTask(0, 4, 0, -1);
        Due.is("both begun", client.placing(), 2);
        return client;
    }

    private static void otherOrders() throws ReflectiveOperationException {
        Client client = running(Client.ofNewHerd(3));
        Object entry = Inside.get(client.herd, "masters 2 entries 1");
        Inside.setPlace(client.herd, "masters 2 entries", 1, Inside.get(client.herd, "masters 2 entries 0"));
        agrees("2 has another order", client.herd, false);
        Inside.setPlace(client.herd, "masters 2 entries", 1, entry);
        agrees("mended", client.herd, true);
        everyPartOfAnOrder(client);
        client.messages = 1;
        Due.is("an order that is not done", client.cancel(0), HerdMasters.OPEN);
        Inside.setPlace(client.herd, "masters 1 entries", 5, entry);
        agrees("1 has another, not done", client.herd, true);
    }

    private static void everyPartOfAnOrder(Client client) throws ReflectiveOperationException {
        String[] parts = {"client", "number", "kind", "a", "b", "c", "d"};
        Object entry = Inside.get(client.herd, "masters 2 entries 2");
        for (String part : parts) {
            Object copy = Inside.get(new HerdMasters(3), "masters 0 entries 0");
            for (String each : parts) {
                Inside.set(copy, each, Inside.number(entry, each));
            }
            Inside.setPlace(client.herd, "masters 2 entries", 2, copy);
            agrees("a copy is the same", client.herd, true);
            Inside.set(copy, part, Inside.number(entry, part) + 1);
            agrees("another " + part, client.herd, false);
        }
        Inside.setPlace(client.herd, "masters 2 entries", 2, entry);
        agrees("mended", client.herd, true);
    }

    private static void tooMuchOnAWorker() throws ReflectiveOperationException {
        for (int m = 0; m < 3; m++) {
            Client client = running(Client.ofNewHerd(3));
            client.placing();
            Inside.set(client.herd, "masters " + m + " scheduler capacities 0", 9);
            agrees("just enough", client.herd, true);
            Inside.set(client.herd, "masters " + m + " scheduler capacities 0", 8);
            agrees("more than its capacity, at " + m, client.herd, false);
        }
    }

    private static void tooMuchForAUser() throws ReflectiveOperationException {
        for (int m = 0; m < 3; m++) {
            Client client = running(Client.ofNewHerd(3));
            client.placing();
            Inside.set(client.herd, "masters " + m + " scheduler tasks 0 need", 6);
            agrees("just the quota", client.herd, true);
            Inside.set(client.herd, "masters " + m + " scheduler tasks 0 need", 7);
            agrees("more than the quota, at " + m, client.herd, false);
        }
    }

    private static void anotherAnswer() throws ReflectiveOperationException {
        Client client = running(Client.ofNewHerd(3));
        Inside.set(client.herd, "given answers 4", 1);
        agrees("the placing was answered otherwise", client.herd, false);
        Inside.set(client.herd, "given answers 4", 2);
        agrees("mended", client.herd, true);
        Inside.setPlace(client.herd, "given isGiven", 5, true);
        agrees("an answer to an order that is not done", client.herd, false);
        Inside.setPlace(client.herd, "given isGiven", 5, false);
        agrees("mended", client.herd, true);
        Inside.set(client.herd, "masters 0 answers 4", 1);
        Due.is("another answer to the same order", client.herd.order(0, 0, 5, 3, 0, 0, 0, 0, 40), 1);
        agrees("two answers to one order", client.herd, false);
    }
}
