/** Promise 9: worker. */
final class P09WorkerTest {
    private static final int BAD = HerdMasters.BAD;

    public static void main(String[] args) {
        Client client = Client.ofNewHerd(3);
        HerdMasters herd = client.herd;
        client.quota(0, 30);
        client.addWorker(1);
        client.addWorker(20);
        isWorker(herd, 0, 1, 1);
        isWorker(herd, 1, 20, 20);
        client.addTask(0, 12, 0, -1);
        client.addTask(0, 8, 0, -1);
        client.addTask(0, 1, 0, -1);
        isWorker(herd, 1, 20, 20);
        client.placing();
        isWorker(herd, 0, 1, 0);
        isWorker(herd, 1, 20, 0);
        Due.is("1 does not know yet", herd.worker(1, 1, 1), 20);
        Due.is("2 knows", herd.worker(2, 1, 1), 0);
        client.output(0, 1, 5);
        isWorker(herd, 1, 20, 12);
        Due.is("1 is one order behind", herd.worker(1, 1, 1), 0);
        client.endLease(1);
        isWorker(herd, 1, 20, 20);
        client.cancel(2);
        isWorker(herd, 0, 1, 1);
        wrongInputs(herd);
        Due.end();
    }

    private static void isWorker(HerdMasters herd, int k, int capacity, int free) {
        Due.is("worker(0, " + k + ", 0)", herd.worker(0, k, 0), capacity);
        Due.is("worker(0, " + k + ", 1)", herd.worker(0, k, 1), free);
    }

    private static void wrongInputs(HerdMasters herd) {
        int[] none = {-1, 2, 3, 5, 6, 7, Integer.MIN_VALUE, Integer.MAX_VALUE};
        for (int k : none) {
            Due.is("worker(0, " + k + ", 0)", herd.worker(0, k, 0), BAD);
            Due.is("worker(0, 0, " + k + ")", herd.worker(0, 0, k), BAD);
            Due.is("worker(" + (k == 2 ? 3 : k) + ", 0, 0)", herd.worker(k == 2 ? 3 : k, 0, 0), BAD);
        }
    }
}
