/** Promise 8: task. */
final class P08TaskTest {
    private static final int BAD = HerdMasters.BAD;

    public static void main(String[] args) {
        Client client = Client.ofNewHerd(3);
        HerdMasters herd = client.herd;
        client.quota(0, 20);
        client.addWorker(4);
        client.addWorker(9);
        client.addTask(0, 5, 0, -1);
        client.addTask(0, 3, 0, -1);
        client.addTask(0, 4, 0, -1);
        client.addTask(0, 4, 0, 0);
        client.placing();
        client.output(1, 1, 77);
        client.cancel(2);
        isTask(herd, 0, 1, 1, 1, 0);
        isTask(herd, 1, 2, 1, BAD, 77);
        isTask(herd, 2, 3, 1, BAD, 0);
        isTask(herd, 3, 0, 0, BAD, 0);
        client.output(0, 1, -1);
        isTask(herd, 0, 2, 1, BAD, -1);
        wrongInputs(herd);
        asThatMasterKnowsIt(client);
        Due.end();
    }

    private static void isTask(HerdMasters herd, int k, int... due) {
        for (int what = 0; what < 4; what++) {
            Due.is("task(0, " + k + ", " + what + ")", herd.task(0, k, what), due[what]);
        }
    }

    private static void wrongInputs(HerdMasters herd) {
        int[] none = {-1, 4, 5, 19, 20, 21, Integer.MIN_VALUE, Integer.MAX_VALUE};
        for (int k : none) {
            Due.is("task(0, " + k + ", 0)", herd.task(0, k, 0), BAD);
            Due.is("task(0, 0, " + k + ")", herd.task(0, 0, k), BAD);
            Due.is("task(" + k + ", 0, 0)", herd.task(k, 0, 0), BAD);
        }
        Due.is("task(3, 0, 0)", herd.task(3, 0, 0), BAD);
    }

    /** Master 1 is told before the majority is there, and so is one order behind. */
    private static void asThatMasterKnowsIt(Client client) {
        HerdMasters herd = client.herd;
        client.placing();
        Due.is("0 knows it runs", herd.task(0, 3, 0), 1);
        Due.is("1 knows it waits", herd.task(1, 3, 0), 0);
        Due.is("2 knows it runs", herd.task(2, 3, 0), 1);
        herd.up(2, false);
        client.output(3, 1, 6);
        Due.is("0 knows it finished", herd.task(0, 3, 0), 2);
        Due.is("1 knows it runs", herd.task(1, 3, 2), 0);
        Due.is("2 is down, and knows what it knew", herd.task(2, 3, 2), 0);
        Due.is("an order that is open", herd.order(0, 1, 1, 2, 0, 1, 0, -1, 1), HerdMasters.OPEN);
        Due.is("makes no task", herd.task(0, 4, 0), BAD);
        Due.is("1 leads", herd.change(1, 40), 1);
        Due.is("1 knows it finished", herd.task(1, 3, 3), 6);
    }
}
