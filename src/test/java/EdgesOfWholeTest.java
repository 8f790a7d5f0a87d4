import java.lang.reflect.Executable;
import java.lang.reflect.Method;
import java.lang.reflect.Modifier;
import java.util.ArrayList;
import java.util.List;

/** What stands before and behind the promises: what the object is, its face, and what is not promised. */
final class EdgesOfWholeTest {
    private static final int OPEN = HerdMasters.OPEN;
    private static final int[] SIZES = {3, 5};

    static final Edges EDGES = ofTheFace(new Edges()
        .in("What it is")
        .add("A herd of workers that is ruled by three or five masters", EdgesOfWholeTest::workersAndMasters)
        .add("each keeps a log", EdgesOfWholeTest::eachKeepsALog)
        .add("one of them leads a view", EdgesOfWholeTest::oneLeadsAView)
        .add("what a majority has is done", EdgesOfWholeTest::whatAMajorityHas)
        .add("and stays done whatever fails between two messages", EdgesOfWholeTest::staysDone)
        .add("what is done are orders to a scheduler with users' quotas", EdgesOfWholeTest::quotas)
        .add("tasks that wait for one another", EdgesOfWholeTest::tasksThatWait)
        .add("best fit", EdgesOfWholeTest::bestFit)
        .add("tasks that must give way", EdgesOfWholeTest::giveWay)
        .add("leases", EdgesOfWholeTest::leases)
        .add("and outputs that count for the last attempt alone", EdgesOfWholeTest::lastAttemptAlone)
        .add("An object is used for at most 512 calls after it has been made", EdgesOfWholeTest::the512thCall)
        .add("what later calls answer is free.", EdgesOfWholeTest::laterCallsAnswer)
        .in("Not promised")
        .add("Nothing is promised beyond the answers and state changes described above", EdgesOfWholeTest::askingChangesNothing)
        .in("The public face")
        .add("public final class HerdMasters {", EdgesOfWholeTest::theClass)
        .add("public static final int BAD = -1, OPEN = -2, NOT_HERE = -3;", EdgesOfWholeTest::constants),
        "public HerdMasters(int n);",
        "public boolean link(int a, int b, boolean on);",
        "public boolean up(int master, boolean on);",
        "public int change(int master, int messages);",
        "public int order(int master, int client, int number, int kind, int a, int b, int c, int d, int messages);",
        "public int told(int master, int what);",
        "public int log(int master, int k, int what);",
        "public int task(int master, int k, int what);",
        "public int worker(int master, int k, int what);",
        "public int used(int master, int user);",
        "public boolean agree();",
        "public int count(int what);");

    public static void main(String[] args) {
        EDGES.run();
    }

    private static Edges ofTheFace(Edges edges, String... lines) {
        for (String line : lines) {
            edges.add(line, () -> stands(line));
        }
        return edges;
    }

    /** The class has what a line of the face says: name, types, and nothing before them but public. */
    private static void stands(String line) {
        String head = line.substring("public ".length(), line.indexOf('('));
        List<String> types = new ArrayList<>();
        for (String parameter : line.substring(line.indexOf('(') + 1, line.indexOf(')')).split(", ")) {
            if (!parameter.isEmpty()) {
                types.add(parameter.split(" ")[0]);
            }
        }
        int found = 0;
        List<Executable> all = new ArrayList<>(List.of(HerdMasters.class.getDeclaredConstructors()));
        all.addAll(List.of(HerdMasters.class.getDeclaredMethods()));
        for (Executable each : all) {
            String name = each instanceof Method method ? method.getReturnType() + " " + method.getName() : each.getName();
            List<String> taken = new ArrayList<>();
            for (Class<?> type : each.getParameterTypes()) {
                taken.add(type.getName());
            }
            if (name.equals(head) && taken.equals(types)) {
                found++;
                Due.is(line + " is public alone", each.getModifiers(), Modifier.PUBLIC);
                Due.is(line + " throws nothing", each.getExceptionTypes().length, 0);
            }
        }
        Due.is(line, found, 1);
    }

    private static void theClass() {
        Due.is("public and final alone", HerdMasters.class.getModifiers(), Modifier.PUBLIC | Modifier.FINAL);
        Due.is("behind no other class", HerdMasters.class.getSuperclass() == Object.class, true);
        Due.is("no interfaces", HerdMasters.class.getInterfaces().length, 0);
        Due.is("no package", HerdMasters.class.getPackageName().isEmpty(), true);
    }

    /** A worker of this capacity, by client 0. */
    private static int order(HerdMasters herd, int master, int number, int capacity, int messages) {
        return herd.order(master, 0, number, 1, capacity, 0, 0, 0, messages);
    }

    private static void workersAndMasters() {
        for (int n : SIZES) {
            HerdMasters herd = new HerdMasters(n);
            Due.is("masters", herd.count(0), n);
            Due.is("a worker", order(herd, 0, 1, 7, 40), 0);
            Due.is("of which that master knows", herd.worker(0, 0, 0), 7);
            Due.is("another", order(herd, 0, 2, 8, 40), 1);
            Due.is("the first one, as the last master knows it", herd.worker(n - 1, 0, 0), 7);
        }
    }

    private static void eachKeepsALog() {
        HerdMasters herd = new HerdMasters(3);
        herd.link(0, 2, false);
        order(herd, 0, 1, 7, 40);
        Due.is("the leader's", herd.told(0, 2), 1);
        Due.is("that of one that it reaches", herd.told(1, 2), 1);
        Due.is("that of one that it does not reach", herd.told(2, 2), 0);
        herd.up(1, false);
        Due.is("one that is down keeps it", herd.log(1, 0, 3), 7);
    }

    private static void oneLeadsAView() {
        for (int n : SIZES) {
            HerdMasters herd = new HerdMasters(n);
            for (int view = 0; view < 2 * n; view++) {
                Due.is("view " + view, view == 0 ? 0 : herd.change(view % n, 40), view);
                for (int m = 0; m < n; m++) {
                    int due = m == view % n ? view : HerdMasters.NOT_HERE;
                    int got = herd.order(m, 0, 1 + view, 0, 0, 0, 0, 0, 40);
                    Due.is("order to " + m + " in view " + view, got == 1 ? view : got, due);
                }
            }
        }
    }

    private static void whatAMajorityHas() {
        for (int n : SIZES) {
            for (int downs = 0; downs < n; downs++) {
                HerdMasters herd = new HerdMasters(n);
                for (int m = 1; m <= downs; m++) {
                    herd.up(m, false);
                }
                boolean isDone = n - downs > n / 2;
                Due.is(downs + " of " + n + " down", order(herd, 0, 1, 7, 40), isDone ? 0 : OPEN);
                Due.is("orders done", herd.told(0, 3), isDone ? 1 : 0);
            }
        }
    }

    private static void staysDone() {
        Due.is("runs with three masters", StaysDoneTest.allRuns(3, 6, new int[0][], 3) > 10000, true);
    }

    private static void quotas() {
        Client client = Client.ofNewHerd(3);
        client.addWorker(20);
        client.quota(1, 9);
        client.addTask(1, 5, 0, -1);
        client.addTask(1, 5, 0, -1);
        client.addTask(1, 4, 0, -1);
        Due.is("two of three have room in the quota", client.placing(), 2);
        client.stand("by number, as far as there is room", 1001, 0, 1001);
        Due.is("used", client.herd.used(0, 1), 9);
        client.messages = 1;
        Due.is("an order that is not done", client.quota(1, 60), OPEN);
        client.herd.change(0, 0);
        Due.is("a scheduler is what is done", client.herd.used(0, 1), 9);
    }

    private static void tasksThatWait() {
        Client client = Client.withWorkers(20);
        client.addTask(0, 1, 0, -1);
        client.addTask(0, 1, 3, 0);
        client.addTask(0, 1, 2, 1);
        for (int k = 0; k < 3; k++) {
            Due.is("one behind the other", client.placing(), 1);
            Due.is("none before it is finished", client.placing(), 0);
            Due.is("finished", client.output(k, 1, k), 1);
        }
        client.stand("all finished", 2001, 2001, 2001);
    }

    private static void bestFit() {
        Client client = Client.withWorkers(9, 6, 7, 6);
        client.addTask(0, 6, 0, -1);
        client.addTask(0, 6, 0, -1);
        client.addTask(0, 6, 0, -1);
        client.addTask(0, 6, 0, -1);
        Due.is("all begun", client.placing(), 4);
        client.runOn("the least that is enough", 1, 3, 2, 0);
    }

    private static void giveWay() {
        Client client = Client.withWorkers(6);
        client.addTask(0, 6, 1, -1);
        client.placing();
        client.addTask(1, 6, 1, -1);
        Due.is("none of the same priority", client.placing(), 0);
        client.addTask(2, 6, 2, -1);
        Due.is("one of a lower one", client.placing(), 1);
        client.stand("waits again", 1, 0, 1001);
    }

    private static void leases() {
        Client client = Client.withWorkers(6, 6);
        client.addTask(0, 3, 0, -1);
        client.addTask(0, 3, 0, -1);
        client.addTask(0, 3, 0, -1);
        client.placing();
        Due.is("two ran on it", client.endLease(0), 2);
        client.stand("they wait", 1, 1, 1001);
        Due.is("none is left", client.endLease(0), 0);
        Due.is("the worker is there still", client.placing(), 2);
    }

    private static void lastAttemptAlone() {
        Client client = Client.withWorkers(6);
        client.addTask(0, 6, 0, -1);
        client.placing();
        client.endLease(0);
        Due.is("it waits", client.output(0, 1, 11), 0);
        client.placing();
        Due.is("the attempt before", client.output(0, 1, 11), 0);
        Due.is("an attempt to come", client.output(0, 3, 33), 0);
        Due.is("no output yet", client.herd.task(0, 0, 3), 0);
        Due.is("the last attempt", client.output(0, 2, 22), 1);
        Due.is("once more", client.output(0, 2, 44), 0);
        Due.is("its output", client.herd.task(0, 0, 3), 22);
    }

    private static void the512thCall() {
        HerdMasters changes = new HerdMasters(5);
        for (int call = 1; call <= 512; call++) {
            Due.is("call " + call + ", change(0, 40)", changes.change(0, 40), 5 * call);
        }
        HerdMasters last = new HerdMasters(3);
        for (int call = 1; call < 512; call++) {
            last.count(0);
        }
        Due.is("an order as call 512", order(last, 0, 1, 5, 40), 0);
        HerdMasters both = new HerdMasters(5);
        for (int call = 1; call <= 60; call++) {
            order(both, 0, call, 5, 40);
        }
        for (int view = 1; view <= 451; view++) {
            both.change(view % 5, 40);
        }
        Due.is("the greatest view as call 512", both.count(3), 451);
    }

    private static void constants() {
        Due.is("BAD", HerdMasters.BAD, -1);
        Due.is("OPEN", HerdMasters.OPEN, -2);
        Due.is("NOT_HERE", HerdMasters.NOT_HERE, -3);
    }

    /** Free as they are, nothing is ever thrown: rule 7 of the language. */
    private static void laterCallsAnswer() {
        Client client = Client.withWorkers(20, 20);
        for (int call = 0; call < 3000; call++) {
            client.herd.order(call % 3, call % 4, 1 + call % 1000, call % 9, call % 21, 1 + call % 19, call % 4, -1, 40);
            client.herd.change(call % 3, call % 41);
            client.herd.agree();
        }
        Due.is("it answers still", client.herd.count(0), 3);
    }

    private static void askingChangesNothing() {
        Client client = Client.withWorkers(6, 9);
        client.addTask(0, 6, 0, -1);
        client.placing();
        client.messages = 1;
        client.addWorker(3);
        client.herd.change(2, 1);
        String before = Inside.picture(client.herd);
        for (int m = -1; m <= 3; m++) {
            for (int k = -1; k <= 8; k++) {
                for (int what = -1; what <= 7; what++) {
                    client.herd.told(m, what);
                    client.herd.log(m, k, what);
                    client.herd.task(m, k, what);
                    client.herd.worker(m, k, what);
                    client.herd.used(m, what);
                    client.herd.count(what);
                }
            }
        }
        client.herd.agree();
        Due.is("all is as it was", Inside.picture(client.herd).equals(before), true);
    }
}
