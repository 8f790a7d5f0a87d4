/** Promise 10: used. */
final class P10UsedTest {
    public static void main(String[] args) {
        Client client = Client.ofNewHerd(3);
        HerdMasters herd = client.herd;
        client.quota(0, 30);
        client.quota(3, 30);
        client.addWorker(20);
        client.addTask(0, 5, 2, -1);
        client.addTask(3, 4, 2, -1);
        client.addTask(0, 3, 2, -1);
        client.addTask(3, 8, 2, -1);
        isUsed(herd, 0, 0, 0, 0, 0);
        client.placing();
        isUsed(herd, 0, 8, 0, 0, 12);
        isUsed(herd, 1, 0, 0, 0, 0);
        isUsed(herd, 2, 8, 0, 0, 12);
        client.output(0, 1, 5);
        isUsed(herd, 0, 3, 0, 0, 12);
        isUsed(herd, 1, 8, 0, 0, 12);
        client.cancel(1);
        isUsed(herd, 0, 3, 0, 0, 8);
        client.quota(3, 2);
        isUsed(herd, 0, 3, 0, 0, 8);
        client.addTask(0, 18, 3, -1);
        client.placing();
        isUsed(herd, 0, 18, 0, 0, 0);
        client.endLease(0);
        isUsed(herd, 0, 0, 0, 0, 0);
        wrongInputs(herd);
        Due.end();
    }

    private static void isUsed(HerdMasters herd, int master, int... due) {
        for (int user = 0; user < 4; user++) {
            Due.is("used(" + master + ", " + user + ")", herd.used(master, user), due[user]);
        }
    }

    private static void wrongInputs(HerdMasters herd) {
        int[] none = {-1, 4, 5, Integer.MIN_VALUE, Integer.MAX_VALUE};
        for (int k : none) {
            Due.is("used(0, " + k + ")", herd.used(0, k), HerdMasters.BAD);
            Due.is("used(" + k + ", 0)", herd.used(k, 0), HerdMasters.BAD);
        }
        Due.is("used(3, 0)", herd.used(3, 0), HerdMasters.BAD);
    }
}
