/** The boundaries of masters, links and messages: "Terms" as far as them, and promises 1 to 3. */
final class EdgesOfMastersTest {
    private static final int BAD = HerdMasters.BAD;
    private static final int OPEN = HerdMasters.OPEN;
    private static final int NOT_HERE = HerdMasters.NOT_HERE;
    private static final int[] SIZES = {3, 5};
    private static final int MIN = Integer.MIN_VALUE;
    private static final int MAX = Integer.MAX_VALUE;

    static final Edges EDGES = new Edges()
        .in("Terms")
        .add("MASTERS 0 .. n - 1.", EdgesOfMastersTest::whichMastersThereAre)
        .add("Each has a VIEW (0 at first)", EdgesOfMastersTest::viewAtFirst)
        .add("the view in which it was last NORMAL (0 at first", EdgesOfMastersTest::lastNormalAtFirst)
        .add("it is normal if that is its view)", EdgesOfMastersTest::normalIfThatIsItsView)
        .add("a LOG of orders (at most 60)", EdgesOfMastersTest::atMostSixtyOrders)
        .add("how many of them it knows to be DONE", EdgesOfMastersTest::noneToAllAreDone)
        .add("It is up or down (up at first", EdgesOfMastersTest::upAtFirst)
        .add("what it has it keeps)", EdgesOfMastersTest::whatItHasItKeeps)
        .add("Each two have a link, or not (at first all have).", EdgesOfMastersTest::allAreLinkedAtFirst)
        .add("A REACHES b, if both are up and linked.", EdgesOfMastersTest::bothUpAndLinked)
        .add("Master v modulo n LEADS view v.", EdgesOfMastersTest::leadersWrapAround)
        .add("A CALL brings at most so many MESSAGES (0 .. 40)", EdgesOfMastersTest::noneToFortyMessages)
        .add("in the order told", EdgesOfMastersTest::inTheOrderTold)
        .add("when they are used up, it ends there", EdgesOfMastersTest::endsWhenMessagesAreUsedUp)
        .add("what was not brought is lost.", EdgesOfMastersTest::lostIfNotBrought)
        .add("Masters are gone through from the least on", EdgesOfMastersTest::fromTheLeastOn)
        .add("without the one that sends", EdgesOfMastersTest::withoutTheSender)
        .add("without those that it does not reach.", EdgesOfMastersTest::withoutThoseNotReached)
        .in("Promise 1: A new object")
        .add("Five masters, if n is 5, else three.", EdgesOfMastersTest::fiveElseThree)
        .in("Promise 2: link")
        .add("A link between two masters is there, or not.", EdgesOfMastersTest::linkIsThereOrNot)
        .add("False: none such", EdgesOfMastersTest::linkOfNoneSuch)
        .add("both are the same master.", EdgesOfMastersTest::linkOfTheSame)
        .in("Promise 3: up")
        .add("A master is up, or down.", EdgesOfMastersTest::masterIsUpOrDown)
        .add("False: none such.", EdgesOfMastersTest::upOfNoneSuch);

    public static void main(String[] args) {
        EDGES.run();
    }

    /** A worker of capacity 5, by client 0: an order that can be told by its answer. */
    private static int order(HerdMasters herd, int master, int number, int messages) {
        return herd.order(master, 0, number, 1, 5, 0, 0, 0, messages);
    }

    private static int asNumber(boolean answer) {
        return answer ? 1 : 0;
    }

    private static void whichMastersThereAre() {
        for (int n : SIZES) {
            HerdMasters herd = new HerdMasters(n);
            order(herd, 0, 1, 40);
            order(herd, 0, 2, 40);
            herd.order(0, 0, 3, 2, 0, 1, 0, -1, 40);
            herd.order(0, 0, 4, 7, 0, 0, 0, 0, 40);
            for (int m : new int[] {MIN, -1, n, MAX}) {
                noSuchMaster(herd, m);
            }
            for (int m : new int[] {0, n - 1}) {
                Due.is("told of " + m, herd.told(m, 4), 1);
                Due.is("log of " + m, herd.log(m, 0, 1), 1);
                Due.is("task of " + m, herd.task(m, 0, 0), 0);
                Due.is("worker of " + m, herd.worker(m, 1, 0), 5);
                Due.is("used of " + m, herd.used(m, 0), 0);
                Due.is("up of " + m, herd.up(m, true), true);
                Due.is("link of " + m, herd.link(m, n / 2, true), true);
                Due.is("change of " + m, herd.change(m, 40), m == 0 ? n : 2 * n - 1);
                Due.is("order to " + m, order(herd, m, 5 + m, 40), m == 0 ? 2 : 3);
            }
        }
    }

    private static void noSuchMaster(HerdMasters herd, int m) {
        Due.isRefused("told of " + m, herd, () -> herd.told(m, 0), BAD);
        Due.isRefused("log of " + m, herd, () -> herd.log(m, 0, 0), BAD);
        Due.isRefused("task of " + m, herd, () -> herd.task(m, 0, 0), BAD);
        Due.isRefused("worker of " + m, herd, () -> herd.worker(m, 0, 0), BAD);
        Due.isRefused("used of " + m, herd, () -> herd.used(m, 0), BAD);
        Due.isRefused("change of " + m, herd, () -> herd.change(m, 40), BAD);
        Due.isRefused("order to " + m, herd, () -> order(herd, m, 9, 40), BAD);
        Due.isRefused("up of " + m, herd, () -> asNumber(herd.up(m, false)), 0);
        Due.isRefused("link from " + m, herd, () -> asNumber(herd.link(m, 0, false)), 0);
        Due.isRefused("link to " + m, herd, () -> asNumber(herd.link(0, m, false)), 0);
    }

    private static void viewAtFirst() {
        for (int n : SIZES) {
            HerdMasters herd = new HerdMasters(n);
            for (int m = 0; m < n; m++) {
                Due.is("view of " + m, herd.told(m, 0), 0);
            }
            Due.is("the greatest", herd.count(3), 0);
            Due.is("the one that leads view 0", order(herd, 0, 1, 40), 0);
        }
    }

    private static void lastNormalAtFirst() {
        for (int n : SIZES) {
            HerdMasters herd = new HerdMasters(n);
            for (int m = 0; m < n; m++) {
                Due.is("last normal view of " + m, herd.told(m, 1), 0);
            }
            Due.is("normal at first, so it takes orders", order(herd, 0, 1, 0), OPEN);
        }
    }

    private static void normalIfThatIsItsView() {
        for (int n : SIZES) {
            HerdMasters herd = new HerdMasters(n);
            Due.is("view 0, last normal in 0: normal", order(herd, 0, 1, 40), 0);
            Due.is("a view begun", herd.change(0, 0), OPEN);
            Due.is("its view", herd.told(0, 0), n);
            Due.is("last normal", herd.told(0, 1), 0);
            Due.is("not normal", order(herd, 0, 2, 40), NOT_HERE);
            Due.is("the next", herd.change(0, 40), 2 * n);
            Due.is("its view", herd.told(0, 0), 2 * n);
            Due.is("last normal", herd.told(0, 1), 2 * n);
            Due.is("normal", order(herd, 0, 2, 40), 1);
        }
    }

    private static void atMostSixtyOrders() {
        for (int n : SIZES) {
            HerdMasters herd = new HerdMasters(n);
            for (int k = 1; k <= 59; k++) {
                herd.order(0, 0, k, 8, k, 0, 0, 0, 40);
            }
            Due.is("59 orders", herd.told(0, 2), 59);
            Due.is("the 60th", herd.order(0, 0, 60, 8, 60, 0, 0, 0, 40), -1);
            for (int m = 0; m < n; m++) {
                Due.is("60 orders of " + m, herd.told(m, 2), 60);
                Due.is("the last of " + m, herd.log(m, 59, 3), 60);
                Due.is("none behind it at " + m, herd.log(m, 60, 3), BAD);
            }
            Due.isRefused("the 61st", herd, () -> herd.order(0, 0, 61, 8, 61, 0, 0, 0, 40), NOT_HERE);
        }
    }

    private static void noneToAllAreDone() {
        HerdMasters herd = new HerdMasters(3);
        for (int m = 0; m < 3; m++) {
            Due.is("none is done at first, at " + m, herd.told(m, 3), 0);
        }
        order(herd, 0, 1, 0);
        Due.is("one in the log", herd.told(0, 2), 1);
        Due.is("of which it knows none to be done", herd.told(0, 3), 0);
        for (int k = 2; k <= 60; k++) {
            order(herd, 0, k, 40);
        }
        Due.is("all 60, for the leader", herd.told(0, 3), 60);
        Due.is("59, for the one told before that", herd.told(1, 3), 59);
        Due.is("all 60, for the one told after it", herd.told(2, 3), 60);
    }

    private static void upAtFirst() {
        for (int n : SIZES) {
            HerdMasters herd = new HerdMasters(n);
            for (int m = 0; m < n; m++) {
                Due.is(m + " is up at first", herd.told(m, 4), 1);
                herd.up(m, false);
                Due.is(m + " is down", herd.told(m, 4), 0);
            }
        }
    }

    private static void whatItHasItKeeps() throws ReflectiveOperationException {
        Client client = Client.withWorkers(9, 4);
        client.addTask(0, 3, 0, -1);
        client.placing();
        client.messages = 1;
        client.cancel(0);
        HerdMasters herd = client.herd;
        herd.change(1, 1);
        for (int m = 0; m < 3; m++) {
            String before = Inside.picture(Inside.get(herd, "masters " + m));
            herd.up(m, false);
            herd.up(m, true);
            String after = Inside.picture(Inside.get(herd, "masters " + m));
            Due.is("down and up again, " + m + " has what it had", after.equals(before), true);
        }
        herd.up(1, false);
        Due.is("down: its view", herd.told(1, 0), 1);
        Due.is("down: its last normal view", herd.told(1, 1), 0);
        Due.is("down: its log", herd.told(1, 2), 9);
        Due.is("down: its orders done", herd.told(1, 3), 8);
        Due.is("down: its task", herd.task(1, 0, 2), 1);
        Due.is("down: its worker", herd.worker(1, 1, 1), 1);
        Due.is("down: what is used", herd.used(1, 0), 3);
    }

    /** Of five masters all links but one are cut: over that one alone a view comes. */
    private static void allAreLinkedAtFirst() {
        for (int a = 0; a < 5; a++) {
            for (int b = 0; b < 5; b++) {
                if (a != b) {
                    onlyLink(a, b, true);
                    onlyLink(a, b, false);
                }
            }
        }
    }

    private static void onlyLink(int a, int b, boolean isThere) {
        HerdMasters herd = new HerdMasters(5);
        for (int m = 0; m < 5; m++) {
            if (m != a && (m != b || !isThere)) {
                herd.link(a, m, false);
            }
        }
        Due.is("too few for a view", herd.change(a, 40), OPEN);
        int view = a == 0 ? 5 : a;
        Due.is("a link " + a + " - " + b + ": " + isThere, herd.told(b, 0), isThere ? view : 0);
        Due.is("messages", herd.count(1), isThere ? 2 : 0);
    }

    private static void bothUpAndLinked() {
        Due.is("up, up, linked", pair(true, true, true), 1);
        Due.is("up, up, not linked", pair(true, true, false), 0);
        Due.is("up, down, linked", pair(true, false, true), 0);
        Due.is("up, down, not linked", pair(true, false, false), 0);
        HerdMasters herd = new HerdMasters(3);
        herd.up(0, false);
        Due.isRefused("down, up, linked: an order", herd, () -> order(herd, 0, 1, 40), NOT_HERE);
        Due.isRefused("down, up, linked: a change", herd, () -> herd.change(0, 40), NOT_HERE);
        Due.is("nothing came to 1", herd.told(1, 0) + herd.told(1, 2), 0);
    }

    /** The length of the log of 1 after an order to 0, when 2 is down. */
    private static int pair(boolean isUp, boolean otherIsUp, boolean isLinked) {
        HerdMasters herd = new HerdMasters(3);
        herd.up(2, false);
        herd.up(0, isUp);
        herd.up(1, otherIsUp);
        herd.link(0, 1, isLinked);
        boolean reaches = isUp && otherIsUp && isLinked;
        Due.is("the order", order(herd, 0, 1, 40), reaches ? 0 : OPEN);
        Due.is("its messages", herd.count(1), reaches ? 2 : 0);
        return herd.told(1, 2);
    }

    /** Each view from 0 to beyond the second wrap-around is led by one master alone. */
    private static void leadersWrapAround() {
        for (int n : SIZES) {
            HerdMasters herd = new HerdMasters(n);
            for (int view = 0; view <= 2 * n + 1; view++) {
                int leader = view < n ? view : view < 2 * n ? view - n : view - 2 * n;
                if (view > 0) {
                    Due.is("view " + view, herd.change(leader, 40), view);
                }
                for (int m = 0; m < n; m++) {
                    int due = m == leader ? -1 : NOT_HERE;
                    Due.is("view " + view + ", order to " + m, herd.order(m, 1, view + 1, 8, 0, 0, 0, 0, 40), due);
                }
            }
        }
    }

    private static void noneToFortyMessages() {
        HerdMasters herd = new HerdMasters(5);
        for (int messages : new int[] {MIN, -1, 41, MAX}) {
            Due.isRefused("an order with " + messages, herd, () -> order(herd, 0, 1, messages), BAD);
            Due.isRefused("a change with " + messages, herd, () -> herd.change(0, messages), BAD);
        }
        Due.is("an order with 0", order(herd, 0, 1, 0), OPEN);
        Due.is("brought none", herd.count(1), 0);
        Due.is("an order with 40", order(herd, 0, 2, 40), 1);
        Due.is("brought as many as there were", herd.count(1), 8);
        Due.is("a change with 0", herd.change(1, 0), OPEN);
        Due.is("brought none", herd.count(1), 8);
        Due.is("a change with 40", herd.change(2, 40), 2);
        Due.is("brought as many as there were", herd.count(1), 16);
    }

    /** Views and last normal views of 0, 1, 2 by the messages of a change; logs and orders done by those of an order. */
    private static void inTheOrderTold() {
        int[][] changed = {{0, 1, 0, 0, 0, 0}, {1, 1, 0, 0, 0, 0}, {1, 1, 0, 0, 1, 0}, {1, 1, 0, 1, 1, 0}, {1, 1, 1, 1, 1, 1}};
        int[][] ordered = {{1, 0, 0, 0, 0, 0}, {1, 1, 0, 0, 0, 0}, {1, 1, 0, 1, 0, 0}, {1, 1, 1, 1, 0, 1}, {1, 1, 1, 1, 0, 1}};
        for (int messages = 0; messages < 5; messages++) {
            HerdMasters changes = new HerdMasters(3);
            HerdMasters orders = new HerdMasters(3);
            changes.change(1, messages);
            order(orders, 0, 1, messages);
            for (int m = 0; m < 3; m++) {
                String name = " of " + m + " after message " + messages;
                Due.is("view" + name, changes.told(m, 0), changed[messages][m]);
                Due.is("last normal view" + name, changes.told(m, 1), changed[messages][3 + m]);
                Due.is("log" + name, orders.told(m, 2), ordered[messages][m]);
                Due.is("orders done" + name, orders.told(m, 3), ordered[messages][3 + m]);
            }
        }
    }

    /** The same call with each number of messages: those before the last one were brought, and no more. */
    private static void endsWhenMessagesAreUsedUp() {
        for (int messages = 0; messages <= 9; messages++) {
            HerdMasters orders = new HerdMasters(5);
            Due.is("an order with " + messages, order(orders, 0, 1, messages), messages < 4 ? OPEN : 0);
            Due.is("its messages", orders.count(1), Math.min(messages, 8));
            for (int m = 1; m < 5; m++) {
                Due.is("log of " + m + " with " + messages, orders.told(m, 2), messages >= 2 * m - 1 ? 1 : 0);
            }
            HerdMasters changes = new HerdMasters(5);
            Due.is("a change with " + messages, changes.change(2, messages), messages < 4 ? OPEN : 2);
            Due.is("its messages", changes.count(1), Math.min(messages, 8));
            int[] told = {5, 6, 4, 7, 8};
            for (int m = 0; m < 5; m++) {
                Due.is(m + " is normal with " + messages, changes.told(m, 1), messages >= told[m] ? 2 : 0);
            }
        }
    }

    private static void lostIfNotBrought() {
        HerdMasters herd = new HerdMasters(3);
        Due.is("1 has the order, its message back is lost", order(herd, 0, 1, 1), OPEN);
        Due.is("log of 1", herd.told(1, 2), 1);
        Due.isRefused("the same order again brings no message", herd, () -> order(herd, 0, 1, 40), NOT_HERE);
        Due.is("nothing is done", herd.told(0, 3), 0);
        Due.is("2 has nothing", herd.told(2, 2), 0);
        Due.is("a change asks 0, whose message back is lost", herd.change(2, 1), OPEN);
        Due.is("view of 0", herd.told(0, 0), 2);
        Due.is("nor does the next change count it", herd.change(2, 1), OPEN);
        Due.is("two messages, and one before", herd.count(1), 3);
        Due.is("2 is not normal", herd.told(2, 1), 0);
    }

    private static void fromTheLeastOn() {
        HerdMasters herd = new HerdMasters(5);
        Due.is("one message of 4", herd.change(4, 1), OPEN);
        views(herd, 4, 0, 0, 0, 4);
        Due.is("view 9, messages to 0, 1, and of these back", herd.change(4, 4), 9);
        views(herd, 9, 9, 0, 0, 9);
        Due.is("an order, one message to the least", order(herd, 4, 1, 1), OPEN);
        lengths(herd, 1, 0, 0, 0, 1);
        Due.is("an order, two and one to the next", order(herd, 4, 2, 3), OPEN);
        lengths(herd, 2, 2, 0, 0, 2);
    }

    private static void views(HerdMasters herd, int... due) {
        for (int m = 0; m < due.length; m++) {
            Due.is("view of " + m, herd.told(m, 0), due[m]);
        }
    }

    private static void lengths(HerdMasters herd, int... due) {
        for (int m = 0; m < due.length; m++) {
            Due.is("log of " + m, herd.told(m, 2), due[m]);
        }
    }

    /** The first, one between and the last as the sender: it is passed over, without a message. */
    private static void withoutTheSender() {
        int[][] told = {{0, 1, 3, 5, 7}, {1, 3, 0, 5, 7}, {1, 3, 5, 7, 0}};
        int[] senders = {0, 2, 4};
        for (int i = 0; i < senders.length; i++) {
            for (int messages = 0; messages <= 8; messages++) {
                HerdMasters herd = new HerdMasters(5);
                herd.change(senders[i], 40);
                order(herd, senders[i], 1, messages);
                Due.is("messages", herd.count(1), 8 + messages);
                for (int m = 0; m < 5; m++) {
                    String name = senders[i] + " sends " + messages + ", log of " + m;
                    Due.is(name, herd.told(m, 2), messages >= told[i][m] ? 1 : 0);
                }
            }
        }
    }

    private static void withoutThoseNotReached() {
        HerdMasters herd = new HerdMasters(5);
        herd.up(1, false);
        herd.link(0, 2, false);
        Due.is("the first message goes to 3", order(herd, 0, 1, 1), OPEN);
        lengths(herd, 1, 0, 0, 1, 0);
        Due.is("four messages are enough", order(herd, 0, 2, 4), 1);
        lengths(herd, 2, 0, 0, 2, 2);
        Due.is("no message to those not reached", herd.count(1), 5);
        Due.is("a change: four messages are enough", herd.change(0, 4), 5);
        views(herd, 5, 0, 0, 5, 5);
        Due.is("messages", herd.count(1), 9);
    }

    private static void fiveElseThree() {
        for (int n : new int[] {4, 6, 3, 2, 0, -5, 15, 50, 55, MIN, MAX}) {
            HerdMasters herd = new HerdMasters(n);
            Due.is("masters of " + n, herd.count(0), 3);
            Due.is("there is 2", herd.told(2, 4), 1);
            Due.is("there is no 3", herd.told(3, 4), BAD);
        }
        HerdMasters five = new HerdMasters(5);
        Due.is("masters of 5", five.count(0), 5);
        Due.is("there is 4", five.told(4, 4), 1);
        Due.is("there is no 5", five.told(5, 4), BAD);
    }

    private static void linkIsThereOrNot() {
        HerdMasters herd = new HerdMasters(3);
        Due.is("cut", herd.link(0, 1, false), true);
        Due.isRefused("cut again, the other way round: nothing new", herd, () -> asNumber(herd.link(1, 0, false)), 1);
        Due.is("without it 1 is not told", order(herd, 0, 1, 40) + herd.told(1, 2), 0);
        Due.is("nor, the other way, 0", herd.change(1, 40) + herd.told(0, 0), 1);
        Due.is("there again", herd.link(1, 0, true), true);
        Due.isRefused("there already", herd, () -> asNumber(herd.link(0, 1, true)), 1);
        Due.is("with it 0 is told", order(herd, 1, 2, 40) + herd.told(0, 2), 3);
    }

    private static void linkOfNoneSuch() {
        for (int n : SIZES) {
            HerdMasters herd = new HerdMasters(n);
            for (int m : new int[] {MIN, -1, n, n + 1, MAX}) {
                for (int other : new int[] {-1, 0, n - 1, n}) {
                    Due.isRefused("link(" + m + ", " + other + ")", herd, () -> asNumber(herd.link(m, other, false)), 0);
                    Due.isRefused("link(" + other + ", " + m + ")", herd, () -> asNumber(herd.link(other, m, false)), 0);
                    Due.isRefused("link(.., true)", herd, () -> asNumber(herd.link(m, other, true)), 0);
                }
            }
            Due.is("the greatest", herd.link(n - 1, n - 2, false), true);
            Due.is("the least", herd.link(0, 1, false), true);
        }
    }

    private static void linkOfTheSame() {
        for (int n : SIZES) {
            HerdMasters herd = new HerdMasters(n);
            for (int m = 0; m < n; m++) {
                int same = m;
                Due.isRefused("link(" + m + ", " + m + ", false)", herd, () -> asNumber(herd.link(same, same, false)), 0);
                Due.isRefused("link(" + m + ", " + m + ", true)", herd, () -> asNumber(herd.link(same, same, true)), 0);
                Due.is("of two", herd.link(m, (m + 1) % n, false), true);
            }
        }
    }

    private static void masterIsUpOrDown() {
        HerdMasters herd = new HerdMasters(5);
        for (int m : new int[] {0, 4}) {
            Due.is("down", herd.up(m, false), true);
            Due.isRefused("down already", herd, () -> asNumber(herd.up(m, false)), 1);
            Due.is("told", herd.told(m, 4), 0);
            Due.is("change", herd.change(m, 40), NOT_HERE);
            Due.is("up", herd.up(m, true), true);
            Due.isRefused("up already", herd, () -> asNumber(herd.up(m, true)), 1);
            Due.is("told", herd.told(m, 4), 1);
            Due.is("change", herd.change(m, 40), m == 0 ? 5 : 9);
        }
    }

    private static void upOfNoneSuch() {
        for (int n : SIZES) {
            HerdMasters herd = new HerdMasters(n);
            for (int m : new int[] {MIN, -1, n, n + 1, MAX}) {
                Due.isRefused("up(" + m + ", false)", herd, () -> asNumber(herd.up(m, false)), 0);
                Due.isRefused("up(" + m + ", true)", herd, () -> asNumber(herd.up(m, true)), 0);
            }
            Due.is("up(0, false)", herd.up(0, false), true);
            Due.is("up(n - 1, false)", herd.up(n - 1, false), true);
        }
    }
}
