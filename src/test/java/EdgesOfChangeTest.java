/** The boundaries of a change of view: "Terms" as far as it, and promise 4. */
final class EdgesOfChangeTest {
    private static final int BAD = HerdMasters.BAD;
    private static final int OPEN = HerdMasters.OPEN;
    private static final int NOT_HERE = HerdMasters.NOT_HERE;
    private static final int[] SIZES = {3, 5};

    static final Edges EDGES = new Edges()
        .in("Terms")
        .add("CHANGE OF VIEW by a master that is up", EdgesOfChangeTest::byAMasterThatIsUp)
        .add("to the least view above its own that it leads", EdgesOfChangeTest::leastViewAboveItsOwn)
        .add("It has that view then (and is not normal).", EdgesOfChangeTest::hasThatViewAndIsNotNormal)
        .add("To each other master one message: that one, if its view is less, has that view then, too",
            EdgesOfChangeTest::ifItsViewIsLess)
        .add("then one message back, if its view is this one now and it is not normal in it",
            EdgesOfChangeTest::oneMessageBack)
        .add("with the view in which it was last normal, its log, and how many orders it knows to be done.",
            EdgesOfChangeTest::whatTheMessageBackBrings)
        .add("As soon as more than half of all masters, with itself, are so together", EdgesOfChangeTest::moreThanHalf)
        .add("(those further on are asked no more)", EdgesOfChangeTest::thoseFurtherOn)
        .add("it takes the log of the one that was last normal in the greatest view", EdgesOfChangeTest::greatestView)
        .add("of those the longest", EdgesOfChangeTest::longestLog)
        .add("of these the one that came first (itself before all)", EdgesOfChangeTest::equalLogs)
        .add("the greatest number of orders that any of them knows to be done", EdgesOfChangeTest::greatestDone)
        .add("and is normal. Then to each other master one message", EdgesOfChangeTest::isNormalThen)
        .add("if that one's view is this one or less, it takes view and log", EdgesOfChangeTest::thisViewOrLess)
        .add("the number of orders done (if that is above its own), and is normal.", EdgesOfChangeTest::doneAboveItsOwn)
        .in("Promise 4: change")
        .add("A change of view by a master, with at most so many messages: the view, if it is normal then",
            EdgesOfChangeTest::theView)
        .add("OPEN, if not.", EdgesOfChangeTest::open)
        .add("BAD: none such", EdgesOfChangeTest::noneSuch)
        .add("other messages", EdgesOfChangeTest::otherMessages)
        .add("NOT_HERE: it is down.", EdgesOfChangeTest::down);

    public static void main(String[] args) {
        EDGES.run();
    }

    /** A worker of the capacity, by client 0. */
    private static int order(HerdMasters herd, int master, int number, int capacity, int messages) {
        return herd.order(master, 0, number, 1, capacity, 0, 0, 0, messages);
    }

    /** View, last normal view, length of the log and orders done of a master. */
    private static void told(HerdMasters herd, int master, int... due) {
        String[] names = {"view", "last normal view", "log", "orders done"};
        for (int what = 0; what < due.length; what++) {
            Due.is(names[what] + " of " + master, herd.told(master, what), due[what]);
        }
    }

    private static void byAMasterThatIsUp() {
        HerdMasters herd = new HerdMasters(3);
        herd.up(2, false);
        Due.isRefused("down", herd, () -> herd.change(2, 40), NOT_HERE);
        herd.up(2, true);
        Due.is("up", herd.change(2, 40), 2);
    }

    /** Each master, from each view of its own up to beyond two wrap-arounds. */
    private static void leastViewAboveItsOwn() {
        for (int n : SIZES) {
            for (int own = 0; own <= 2 * n; own++) {
                for (int m = 0; m < n; m++) {
                    HerdMasters herd = new HerdMasters(n);
                    for (int view = 1; view <= own; view++) {
                        herd.change(view % n, 40);
                    }
                    told(herd, m, own, own);
                    int due = m;
                    while (due <= own) {
                        due += n;
                    }
                    Due.is("change(" + m + ") from view " + own, herd.change(m, 40), due);
                }
            }
        }
        HerdMasters herd = new HerdMasters(3);
        herd.link(0, 1, false);
        herd.change(2, 40);
        herd.link(0, 2, false);
        herd.change(2, 40);
        Due.is("above its own, not above another's", herd.change(0, 0) + herd.told(0, 0), OPEN + 3);
        Due.is("another's", herd.told(2, 0), 5);
    }

    private static void hasThatViewAndIsNotNormal() {
        for (int n : SIZES) {
            HerdMasters herd = new HerdMasters(n);
            Due.is("without a message", herd.change(0, 0), OPEN);
            told(herd, 0, n, 0, 0, 0);
            Due.is("it was normal and led, and takes no orders now", order(herd, 0, 1, 5, 40), NOT_HERE);
            Due.is("once more", herd.change(0, 0), OPEN);
            told(herd, 0, 2 * n, 0, 0, 0);
            Due.is("with its message back lost", herd.change(0, 1), OPEN);
            told(herd, 0, 3 * n, 0, 0, 0);
        }
    }

    /** A view that is the same cannot be met there: its one leader begins it but once. */
    private static void ifItsViewIsLess() {
        HerdMasters herd = new HerdMasters(3);
        Due.is("view 0 is less than 1", herd.change(1, 1), OPEN);
        told(herd, 0, 1, 0);
        Due.is("view 1 is less than 2", herd.change(2, 1), OPEN);
        told(herd, 0, 2, 0);
        told(herd, 1, 1, 0);
        HerdMasters other = new HerdMasters(3);
        other.link(1, 2, false);
        other.change(2, 1);
        Due.is("view 2 is not less than 1", other.change(1, 1), OPEN);
        told(other, 0, 2, 0);
        told(other, 1, 1, 0);
        Due.is("one message each", other.count(1), 2);
    }

    private static void oneMessageBack() {
        HerdMasters herd = new HerdMasters(3);
        Due.is("from one whose view was less: the second message", herd.change(1, 2), 1);
        Due.is("two messages", herd.count(1), 2);
        HerdMasters normal = new HerdMasters(3);
        normal.link(1, 2, false);
        normal.link(0, 1, false);
        Due.is("0 and 2 are normal in view 2", normal.change(2, 40), 2);
        normal.link(0, 1, true);
        Due.is("none from one whose view is greater", normal.change(1, 40), OPEN);
        Due.is("three messages before, one now", normal.count(1), 4);
        HerdMasters open = new HerdMasters(3);
        open.link(1, 2, false);
        open.change(2, 1);
        told(open, 0, 2, 0);
        Due.is("nor from one whose greater view is not normal", open.change(1, 40), OPEN);
        Due.is("one message before, one now", open.count(1), 2);
        told(open, 1, 1, 0);
    }

    private static void whatTheMessageBackBrings() {
        HerdMasters herd = new HerdMasters(3);
        order(herd, 0, 1, 5, 4);
        order(herd, 0, 2, 6, 0);
        told(herd, 1, 0, 0, 1, 0);
        told(herd, 0, 0, 0, 2, 1);
        Due.is("the message back is lost", herd.change(1, 1), OPEN);
        told(herd, 1, 1, 0, 1, 0);
        Due.is("it is brought", herd.change(1, 2), 4);
        told(herd, 1, 4, 4, 2, 1);
        Due.is("its log", herd.log(1, 1, 3), 6);
        Due.is("what is done has made its scheduler", herd.worker(1, 0, 0), 5);
        Due.is("what is not done has not", herd.worker(1, 1, 0), BAD);
    }

    private static void moreThanHalf() {
        HerdMasters three = new HerdMasters(3);
        three.up(0, false);
        three.up(2, false);
        Due.is("one of three", three.change(1, 40), OPEN);
        three.up(2, true);
        Due.is("two of three", three.change(1, 40), 4);
        HerdMasters five = new HerdMasters(5);
        for (int m = 2; m < 5; m++) {
            five.up(m, false);
        }
        Due.is("two of five, and of those up all", five.change(1, 40), OPEN);
        told(five, 0, 1, 0);
        five.up(4, true);
        Due.is("three of five", five.change(1, 40), 6);
        told(five, 0, 6, 6);
        HerdMasters cut = new HerdMasters(5);
        Due.is("the second message back lost", cut.change(1, 3), OPEN);
        Due.is("the second message back brought", cut.change(1, 4), 6);
    }

    private static void thoseFurtherOn() {
        HerdMasters three = new HerdMasters(3);
        Due.is("two are enough", three.change(2, 2), 2);
        told(three, 0, 2, 0);
        told(three, 1, 0, 0);
        HerdMasters five = new HerdMasters(5);
        Due.is("three are enough", five.change(3, 4), 3);
        told(five, 1, 3, 0);
        told(five, 2, 0, 0);
        told(five, 4, 0, 0);
        HerdMasters lost = new HerdMasters(5);
        lost.change(1, 40);
        lost.link(1, 2, false);
        lost.link(1, 3, false);
        lost.link(0, 1, false);
        Due.is("4 alone has an order, too few", order(lost, 1, 1, 5, 40), OPEN);
        told(lost, 4, 1, 1, 1, 0);
        lost.up(1, false);
        Due.is("2 asks 0 and 3, and not 4", lost.change(2, 40), 2);
        told(lost, 2, 2, 2, 0, 0);
        told(lost, 4, 2, 2, 0, 0);
    }

    /** Master 2 was last normal in a view above that of master 0, or in the same one. */
    private static void greatestView() {
        HerdMasters later = new HerdMasters(3);
        later.up(0, false);
        later.change(1, 40);
        order(later, 1, 1, 9, 40);
        later.up(1, false);
        later.up(0, true);
        ordersOfItsOwn(later, 3);
        told(later, 0, 0, 0, 3, 0);
        told(later, 2, 1, 1, 1, 0);
        Due.is("0 asks 2", later.change(0, 40), 3);
        told(later, 0, 3, 3, 1, 0);
        Due.is("the short log of view 1, not the long one of view 0", later.log(0, 0, 3), 9);
        HerdMasters own = new HerdMasters(3);
        own.up(0, false);
        own.change(1, 2);
        order(own, 1, 1, 9, 0);
        told(own, 1, 1, 1, 1, 0);
        told(own, 2, 1, 0, 0, 0);
        own.up(0, true);
        own.up(2, false);
        ordersOfItsOwn(own, 3);
        Due.is("1 asks 0", own.change(1, 40), 4);
        told(own, 1, 4, 4, 1, 0);
        Due.is("its own short log of view 1", own.log(1, 0, 3), 9);
    }

    /** Master 0, which leads view 0 still, has orders that it can bring to none. */
    private static void ordersOfItsOwn(HerdMasters herd, int count) {
        herd.link(0, 1, false);
        herd.link(0, 2, false);
        for (int k = 1; k <= count; k++) {
            Due.is("an order for itself", herd.order(0, 1, k, 1, 4, 0, 0, 0, 40), OPEN);
        }
        herd.link(0, 1, true);
        herd.link(0, 2, true);
    }

    private static void longestLog() {
        HerdMasters other = new HerdMasters(5);
        order(other, 0, 1, 11, 3);
        order(other, 0, 2, 12, 1);
        told(other, 1, 0, 0, 2, 0);
        told(other, 2, 0, 0, 1, 0);
        other.up(0, false);
        Due.is("4 asks 1 and 2", other.change(4, 4), 4);
        told(other, 4, 4, 4, 2, 0);
        Due.is("the first, which is longer by one", other.log(4, 1, 3), 12);
        HerdMasters second = new HerdMasters(5);
        second.link(0, 1, false);
        order(second, 0, 1, 11, 1);
        told(second, 1, 0, 0, 0, 0);
        told(second, 2, 0, 0, 1, 0);
        second.up(0, false);
        Due.is("4 asks 1 and 2", second.change(4, 4), 4);
        told(second, 4, 4, 4, 1, 0);
        HerdMasters own = new HerdMasters(3);
        order(own, 0, 1, 11, 1);
        order(own, 0, 2, 12, 0);
        told(own, 1, 0, 0, 1, 0);
        Due.is("0 asks 1", own.change(0, 2), 3);
        told(own, 0, 3, 3, 2, 0);
        Due.is("its own, which is longer by one", own.log(0, 1, 3), 12);
    }

    /** Logs of one view and one length are the same, whoever came first; orders done may still be more. */
    private static void equalLogs() {
        HerdMasters herd = new HerdMasters(5);
        order(herd, 0, 1, 11, 40);
        order(herd, 0, 2, 12, 6);
        told(herd, 1, 0, 0, 2, 1);
        told(herd, 2, 0, 0, 2, 1);
        told(herd, 3, 0, 0, 2, 2);
        herd.up(0, false);
        Due.is("1 asks 2 and 3", herd.change(1, 4), 1);
        told(herd, 1, 1, 1, 2, 2);
        for (int k = 0; k < 2; k++) {
            for (int what = 0; what < 7; what++) {
                Due.is("the log of all", herd.log(1, k, what), herd.log(2, k, what));
            }
        }
        HerdMasters empty = new HerdMasters(3);
        Due.is("all logs are empty", empty.change(1, 2), 1);
        told(empty, 1, 1, 1, 0, 0);
    }

    private static void greatestDone() {
        HerdMasters other = new HerdMasters(3);
        order(other, 0, 1, 5, 40);
        told(other, 1, 0, 0, 1, 0);
        told(other, 2, 0, 0, 1, 1);
        other.up(0, false);
        Due.is("1 knows none, 2 one", other.change(1, 2), 1);
        told(other, 1, 1, 1, 1, 1);
        HerdMasters own = new HerdMasters(3);
        order(own, 0, 1, 5, 40);
        own.up(0, false);
        Due.is("2 knows one, 1 none", own.change(2, 2), 2);
        told(own, 2, 2, 2, 1, 1);
        HerdMasters none = new HerdMasters(3);
        order(none, 0, 1, 5, 1);
        Due.is("none knows one", none.change(0, 2), 3);
        told(none, 0, 3, 3, 1, 0);
        ofAnotherThanTheLog();
    }

    private static void ofAnotherThanTheLog() {
        HerdMasters herd = new HerdMasters(5);
        Due.is("0 knows it done, 1 and 2 have it", order(herd, 0, 1, 5, 4), 0);
        herd.up(0, false);
        Due.is("1 leads, with 2 and 3, which know none", herd.change(1, 40), 1);
        told(herd, 1, 1, 1, 1, 0);
        Due.is("a second order, open", order(herd, 1, 2, 6, 3), OPEN);
        herd.up(0, true);
        herd.up(1, false);
        told(herd, 2, 1, 1, 2, 0);
        Due.is("0 asks 2 and 3", herd.change(0, 4), 5);
        told(herd, 0, 5, 5, 2, 1);
        Due.is("the log of 2", herd.log(0, 1, 3), 6);
    }

    private static void isNormalThen() {
        HerdMasters herd = new HerdMasters(3);
        Due.is("one message too few", herd.change(1, 1), OPEN);
        Due.is("not normal", order(herd, 1, 1, 5, 40), NOT_HERE);
        Due.is("just enough, and none is told", herd.change(1, 2), 4);
        told(herd, 1, 4, 4);
        told(herd, 0, 4, 0);
        Due.is("normal", order(herd, 1, 1, 5, 40), 0);
        HerdMasters told = new HerdMasters(3);
        Due.is("one is told", told.change(1, 3), 1);
        told(told, 0, 1, 1);
        told(told, 2, 0, 0);
        HerdMasters both = new HerdMasters(3);
        Due.is("both are told", both.change(1, 4), 1);
        told(both, 2, 1, 1);
        Due.is("four messages", both.count(1), 4);
    }

    private static void thisViewOrLess() {
        HerdMasters herd = new HerdMasters(5);
        herd.order(0, 0, 1, 1, 5, 0, 0, 0, 40);
        herd.link(4, 1, false);
        Due.is("0 has view 4, and 4 itself", herd.change(4, 1), OPEN);
        int before = herd.count(1);
        Due.is("1 asks 0, 2 and 3", herd.change(1, 40), 1);
        told(herd, 2, 1, 1, 1);
        told(herd, 3, 1, 1, 1);
        told(herd, 0, 4, 0, 1);
        Due.is("0: 1, 2: 2, 3: 2, told 3, of which one has a greater view", herd.count(1), before + 8);
        HerdMasters less = new HerdMasters(3);
        order(less, 0, 1, 5, 1);
        Due.is("0 asks 1, and tells 1 (this view) and 2 (less)", less.change(0, 40), 3);
        told(less, 1, 3, 3, 1);
        told(less, 2, 3, 3, 1);
        Due.is("four messages, and one before", less.count(1), 5);
        HerdMasters shorter = new HerdMasters(3);
        ordersOfItsOwn(shorter, 2);
        shorter.link(0, 2, false);
        shorter.link(0, 1, false);
        Due.is("1 and 2 know nothing of them", shorter.change(1, 40), 1);
        shorter.link(0, 2, true);
        Due.is("2 asks 0", shorter.change(2, 4), 2);
        told(shorter, 0, 2, 2, 0);
        Due.is("the log that is taken is shorter", shorter.log(0, 0, 0), BAD);
    }

    private static void doneAboveItsOwn() {
        HerdMasters herd = new HerdMasters(3);
        order(herd, 0, 1, 5, 40);
        told(herd, 1, 0, 0, 1, 0);
        Due.is("2 knows one", herd.change(2, 40), 2);
        told(herd, 1, 2, 2, 1, 1);
        Due.is("so it has the worker", herd.worker(1, 0, 0), 5);
        HerdMasters own = new HerdMasters(5);
        own.change(4, 40);
        Due.is("4 knows one, 0 and 1 have it", order(own, 4, 1, 5, 4), 0);
        Due.is("0 asks 1 and 2", own.change(0, 40), 5);
        told(own, 0, 5, 5, 1, 0);
        told(own, 3, 5, 5, 1, 0);
        told(own, 4, 5, 5, 1, 1);
        Due.is("4 has the worker still", own.worker(4, 0, 0), 5);
        Due.is("0 has none yet", own.worker(0, 0, 0), BAD);
    }

    private static void theView() {
        HerdMasters three = new HerdMasters(3);
        Due.is("with 2 messages", three.change(2, 2), 2);
        Due.is("with 40", three.change(2, 40), 5);
        HerdMasters five = new HerdMasters(5);
        Due.is("with 4 messages", five.change(4, 4), 4);
        Due.is("with 40", five.change(0, 40), 5);
    }

    private static void open() {
        HerdMasters three = new HerdMasters(3);
        Due.is("with 0 messages", three.change(2, 0), OPEN);
        Due.is("with 1 message", three.change(2, 1), OPEN);
        HerdMasters five = new HerdMasters(5);
        Due.is("with 3 messages", five.change(4, 3), OPEN);
        told(five, 4, 4, 0);
    }

    private static void noneSuch() {
        for (int n : SIZES) {
            HerdMasters herd = new HerdMasters(n);
            for (int m : new int[] {Integer.MIN_VALUE, -1, n, Integer.MAX_VALUE}) {
                Due.isRefused("change(" + m + ", 40)", herd, () -> herd.change(m, 40), BAD);
            }
            Due.is("the last", herd.change(n - 1, 40), n - 1);
            Due.is("the first", herd.change(0, 40), n);
        }
    }

    private static void otherMessages() {
        HerdMasters herd = new HerdMasters(3);
        for (int messages : new int[] {Integer.MIN_VALUE, -1, 41, Integer.MAX_VALUE}) {
            Due.isRefused("change(1, " + messages + ")", herd, () -> herd.change(1, messages), BAD);
        }
        Due.is("0 messages", herd.change(1, 0), OPEN);
        Due.is("40 messages", herd.change(1, 40), 4);
    }

    private static void down() {
        HerdMasters herd = new HerdMasters(5);
        for (int m = 0; m < 5; m++) {
            int master = m;
            herd.up(m, false);
            Due.isRefused("down, 0 messages", herd, () -> herd.change(master, 0), NOT_HERE);
            Due.isRefused("down, 40 messages", herd, () -> herd.change(master, 40), NOT_HERE);
            Due.isRefused("down, 41 messages", herd, () -> herd.change(master, 41), BAD);
            herd.up(m, true);
        }
        Due.is("up", herd.change(3, 40), 3);
    }
}
