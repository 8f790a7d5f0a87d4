/**
 * Three or five masters that keep one log of orders to a scheduler of tasks:
 * what a majority of them has is done, and stays done whatever fails.
 */
public final class HerdMasters {
    public static final int BAD = -1, OPEN = -2, NOT_HERE = -3;

    private static final int MOST_ORDERS = 60;
    private static final int MOST_MESSAGES = 40;
    private static final int CLIENTS = 4;
    private static final int GREATEST_NUMBER = 1000;

    private final int size;
    private final Master[] masters;
    /** Cut rather than linked: a new row says false, and at first no link is cut. */
    private final boolean[] cut;
    private final GivenAnswers given;
    private int messagesLeft;
    private int messagesBrought;

    public HerdMasters(int n) {
        size = n == 5 ? 5 : 3;
        cut = new boolean[size * size];
        given = new GivenAnswers();
        masters = new Master[size];
        Order blank = new Order(0, 0, 0, 0, 0, 0, 0);
        for (int i = 0; i < size; i++) {
            masters[i] = new Master(blank);
        }
    }

    public boolean link(int a, int b, boolean on) {
        if (!isMaster(a) || !isMaster(b) || a == b) {
            return false;
        }
        cut[a * size + b] = !on;
        cut[b * size + a] = !on;
        return true;
    }

    public boolean up(int master, boolean on) {
        if (!isMaster(master)) {
            return false;
        }
        masters[master].isUp = on;
        return true;
    }

    public int change(int master, int messages) {
        if (!isMaster(master) || !areMessages(messages)) {
            return BAD;
        }
        Master leader = masters[master];
        if (!leader.isUp) {
            return NOT_HERE;
        }
        messagesLeft = messages;
        leader.view = nextViewLedBy(master);
        if (!gatherMajority(master)) {
            return OPEN;
        }
        announceView(master);
        carryOutWhatIsDone();
        return leader.view;
    }

    public int order(int master, int client, int number, int kind, int a, int b, int c, int d, int messages) {
        if (!isMaster(master) || !isClient(client) || !isNumber(number) || !areMessages(messages)) {
            return BAD;
        }
        Master leader = masters[master];
        if (!leader.isUp || !leader.isNormal() || leader.view % size != master) {
            return NOT_HERE;
        }
        if (leader.greatestNumberOf(client) >= number) {
            return giveAnswer(leader, leader.placeOf(client, number), NOT_HERE);
        }
        if (leader.length >= MOST_ORDERS) {
            return NOT_HERE;
        }
        leader.append(new Order(client, number, kind, a, b, c, d));
        messagesLeft = messages;
        spreadLog(master);
        carryOutWhatIsDone();
        return giveAnswer(leader, leader.length - 1, OPEN);
    }

    public int told(int master, int what) {
        if (!isMaster(master)) {
            return BAD;
        }
        Master asked = masters[master];
        switch (what) {
            case 0: return asked.view;
            case 1: return asked.lastNormal;
            case 2: return asked.length;
            case 3: return asked.done;
            case 4: return asked.isUp ? 1 : 0;
            default: return BAD;
        }
    }

    public int log(int master, int k, int what) {
        if (!isMaster(master) || k < 0 || k >= masters[master].length) {
            return BAD;
        }
        return masters[master].entries[k].part(what);
    }

    public int task(int master, int k, int what) {
        if (!isMaster(master) || !masters[master].scheduler.isTask(k)) {
            return BAD;
        }
        return masters[master].scheduler.tasks[k].part(what);
    }

    public int worker(int master, int k, int what) {
        if (!isMaster(master) || !masters[master].scheduler.isWorker(k)) {
            return BAD;
        }
        Scheduler known = masters[master].scheduler;
        switch (what) {
            case 0: return known.capacities[k];
            case 1: return known.freeOn(k);
            default: return BAD;
        }
    }

    public int used(int master, int user) {
        if (!isMaster(master) || !masters[master].scheduler.isUser(user)) {
            return BAD;
        }
        return masters[master].scheduler.usedBy(user);
    }

    public boolean agree() {
        Master longest = masters[0];
        for (int i = 0; i < size; i++) {
            if (!masters[i].scheduler.keepsBounds() || !agreesWithThoseBefore(i)) {
                return false;
            }
            if (masters[i].done > longest.done) {
                longest = masters[i];
            }
        }
        return given.standBy(longest);
    }

    public int count(int what) {
        switch (what) {
            case 0: return size;
            case 1: return messagesBrought;
            case 2: return given.count;
            case 3: return greatestView();
            default: return BAD;
        }
    }

    private boolean isMaster(int master) {
        return master >= 0 && master < size;
    }

    private boolean isClient(int client) {
        return client >= 0 && client < CLIENTS;
    }

    private boolean isNumber(int number) {
        return number >= 1 && number <= GREATEST_NUMBER;
    }

    private boolean areMessages(int messages) {
        return messages >= 0 && messages <= MOST_MESSAGES;
    }

    private boolean isMajority(int together) {
        return together * 2 > size;
    }

    private boolean reaches(int a, int b) {
        return a != b && masters[a].isUp && masters[b].isUp && !cut[a * size + b];
    }

    private int nextViewLedBy(int master) {
        int above = masters[master].view + 1;
        return above + Math.floorMod(master - above, size);
    }

    private int greatestView() {
        int greatest = 0;
        for (int i = 0; i < size; i++) {
            greatest = Math.max(greatest, masters[i].view);
        }
        return greatest;
    }

    /** False when the call's messages are used up: then the call must end where it stands. */
    private boolean bringMessage() {
        if (messagesLeft <= 0) {
            return false;
        }
        messagesLeft--;
        messagesBrought++;
        return true;
    }

    private boolean gatherMajority(int master) {
        Master leader = masters[master];
        Master best = leader;
        int done = leader.done;
        int together = 1;
        for (int i = 0; i < size && !isMajority(together); i++) {
            if (!reaches(master, i)) {
                continue;
            }
            if (!bringMessage()) {
                return false;
            }
            if (!masters[i].joins(leader.view)) {
                continue;
            }
            if (!bringMessage()) {
                return false;
            }
            together++;
            done = Math.max(done, masters[i].done);
            if (masters[i].knowsMoreThan(best)) {
                best = masters[i];
            }
        }
        if (!isMajority(together)) {
            return false;
        }
        leader.lead(best, done);
        return true;
    }

    private void announceView(int master) {
        for (int i = 0; i < size; i++) {
            if (!reaches(master, i)) {
                continue;
            }
            if (!bringMessage()) {
                return;
            }
            masters[i].follow(masters[master]);
        }
    }

    private void spreadLog(int master) {
        Master leader = masters[master];
        int together = 1;
        for (int i = 0; i < size; i++) {
            if (!reaches(master, i)) {
                continue;
            }
            if (!bringMessage()) {
                return;
            }
            if (!masters[i].follow(leader)) {
                continue;
            }
            if (!bringMessage()) {
                return;
            }
            together++;
            if (isMajority(together)) {
                leader.done = leader.length;
            }
        }
    }

    /** Done orders never change, so each scheduler goes on from where it stood. */
    private void carryOutWhatIsDone() {
        for (int i = 0; i < size; i++) {
            Master master = masters[i];
            for (int k = master.carriedOut; k < master.done && k < master.length; k++) {
                master.answers[k] = master.scheduler.answerTo(master.entries[k]);
                master.carriedOut = k + 1;
            }
        }
    }

    private int giveAnswer(Master leader, int place, int otherwise) {
        if (place < 0 || place >= leader.carriedOut) {
            return otherwise;
        }
        int answer = leader.answers[place];
        given.add(place, answer);
        return answer;
    }

    private boolean agreesWithThoseBefore(int master) {
        for (int i = 0; i < master; i++) {
            if (!masters[i].hasSameDoneAs(masters[master])) {
                return false;
            }
        }
        return true;
    }

    private static final class Order {
        final int client;
        final int number;
        final int kind;
        final int a;
        final int b;
        final int c;
        final int d;

        Order(int client, int number, int kind, int a, int b, int c, int d) {
            this.client = client;
            this.number = number;
            this.kind = kind;
            this.a = a;
            this.b = b;
            this.c = c;
            this.d = d;
        }

        int part(int what) {
            switch (what) {
                case 0: return client;
                case 1: return number;
                case 2: return kind;
                case 3: return a;
                case 4: return b;
                case 5: return c;
                case 6: return d;
                default: return BAD;
            }
        }

        boolean isSameAs(Order other) {
            return client == other.client && number == other.number && kind == other.kind
                && a == other.a && b == other.b && c == other.c && d == other.d;
        }
    }

    private static final class Master {
        final Order[] entries = new Order[MOST_ORDERS];
        final Scheduler scheduler = new Scheduler();
        final int[] answers = new int[MOST_ORDERS];
        int carriedOut;
        int view;
        int lastNormal;
        int length;
        int done;
        boolean isUp = true;

        /** The blank order stands in every unused place, so that no place is ever null. */
        Master(Order blank) {
            for (int k = 0; k < MOST_ORDERS; k++) {
                entries[k] = blank;
            }
        }

        boolean isNormal() {
            return lastNormal == view;
        }

        boolean joins(int asked) {
            if (view < asked) {
                view = asked;
            }
            return view == asked && !isNormal();
        }

        boolean knowsMoreThan(Master other) {
            return lastNormal > other.lastNormal
                || lastNormal == other.lastNormal && length > other.length;
        }

        void lead(Master best, int greatestDone) {
            takeLog(best);
            done = greatestDone;
            lastNormal = view;
        }

        boolean follow(Master leader) {
            if (view > leader.view) {
                return false;
            }
            view = leader.view;
            lastNormal = leader.view;
            takeLog(leader);
            done = Math.max(done, leader.done);
            return true;
        }

        private void takeLog(Master other) {
            for (int k = 0; k < other.length; k++) {
                entries[k] = other.entries[k];
            }
            length = other.length;
        }

        void append(Order order) {
            if (length < MOST_ORDERS) {
                entries[length] = order;
                length++;
            }
        }

        int greatestNumberOf(int client) {
            int greatest = 0;
            for (int k = 0; k < length; k++) {
                if (entries[k].client == client) {
                    greatest = Math.max(greatest, entries[k].number);
                }
            }
            return greatest;
        }

        int placeOf(int client, int number) {
            for (int k = 0; k < length; k++) {
                if (entries[k].client == client && entries[k].number == number) {
                    return k;
                }
            }
            return -1;
        }

        boolean hasSameDoneAs(Master other) {
            int both = Math.min(done, other.done);
            if (both > length || both > other.length) {
                return false;
            }
            for (int k = 0; k < both; k++) {
                if (!entries[k].isSameAs(other.entries[k])) {
                    return false;
                }
            }
            return true;
        }
    }

    /** The answers that clients have been given, by the place of their order in the log. */
    private static final class GivenAnswers {
        final boolean[] isGiven = new boolean[MOST_ORDERS];
        final int[] answers = new int[MOST_ORDERS];
        int count;
        boolean contradicted;

        void add(int place, int answer) {
            if (isGiven[place] && answers[place] != answer) {
                contradicted = true;
            }
            isGiven[place] = true;
            answers[place] = answer;
            count++;
        }

        boolean standBy(Master longest) {
            if (contradicted) {
                return false;
            }
            for (int k = 0; k < MOST_ORDERS; k++) {
                if (isGiven[k] && (k >= longest.carriedOut || answers[k] != longest.answers[k])) {
                    return false;
                }
            }
            return true;
        }
    }

    private static final class Task {
        static final int WAITS = 0;
        static final int RUNS = 1;
        static final int FINISHED = 2;
        static final int CANCELLED = 3;
        static final int NONE = -1;

        int user;
        int need;
        int priority;
        int before = NONE;
        int state;
        int attempt;
        /** NONE whenever the task does not run, so that a worker's tasks are told by this alone. */
        int place = NONE;
        int output;

        void beginOn(int worker) {
            state = RUNS;
            place = worker;
            attempt++;
        }

        void leave(int newState) {
            state = newState;
            place = NONE;
        }

        int part(int what) {
            switch (what) {
                case 0: return state;
                case 1: return attempt;
                case 2: return state == RUNS ? place : BAD;
                case 3: return state == FINISHED ? output : 0;
                default: return BAD;
            }
        }
    }

    /** What the orders that a master knows to be done have made, one behind the other. */
    private static final class Scheduler {
        static final int USERS = 4;
        static final int MOST_QUOTA = 60;
        static final int MOST_WORKERS = 6;
        static final int MOST_TASKS = 20;
        static final int MOST_SIZE = 20;
        static final int GREATEST_PRIORITY = 3;
        static final int NONE = -1;

        final int[] quotas = new int[USERS];
        /** The most that a user may be found to use: a lowered quota takes nothing away from what runs. */
        final int[] bounds = new int[USERS];
        final int[] capacities = new int[MOST_WORKERS];
        final Task[] tasks = new Task[MOST_TASKS];
        final boolean[] waitedAtFirst = new boolean[MOST_TASKS];
        final int[] leaving = new int[MOST_TASKS];
        int workerCount;
        int taskCount;

        Scheduler() {
            for (int k = 0; k < MOST_TASKS; k++) {
                tasks[k] = new Task();
            }
        }

        boolean isUser(int user) {
            return user >= 0 && user < USERS;
        }

        boolean isWorker(int worker) {
            return worker >= 0 && worker < workerCount;
        }

        boolean isTask(int task) {
            return task >= 0 && task < taskCount;
        }

        private boolean isSize(int number) {
            return number >= 1 && number <= MOST_SIZE;
        }

        int answerTo(Order order) {
            switch (order.kind) {
                case 0: return setQuota(order.a, order.b);
                case 1: return addWorker(order.a);
                case 2: return addTask(order.a, order.b, order.c, order.d);
                case 3: return placeTasks();
                case 4: return finish(order.a, order.b, order.c);
                case 5: return cancel(order.a);
                case 6: return endLease(order.a);
                case 7: return standing(order.a);
                default: return NONE;
            }
        }

        private int setQuota(int user, int quota) {
            if (!isUser(user) || quota < 0 || quota > MOST_QUOTA) {
                return 0;
            }
            quotas[user] = quota;
            bounds[user] = Math.max(quota, usedBy(user));
            return 1;
        }

        private int addWorker(int capacity) {
            if (!isSize(capacity) || workerCount >= MOST_WORKERS) {
                return NONE;
            }
            capacities[workerCount] = capacity;
            workerCount++;
            return workerCount - 1;
        }

        private int addTask(int user, int need, int priority, int before) {
            boolean isSuch = isUser(user) && isSize(need) && priority >= 0 && priority <= GREATEST_PRIORITY
                && (before == NONE || isTask(before));
            if (!isSuch || taskCount >= MOST_TASKS) {
                return NONE;
            }
            Task added = tasks[taskCount];
            added.user = user;
            added.need = need;
            added.priority = priority;
            added.before = before;
            taskCount++;
            return taskCount - 1;
        }

        private int finish(int task, int attempt, int output) {
            if (!isTask(task) || tasks[task].state != Task.RUNS || tasks[task].attempt != attempt) {
                return 0;
            }
            tasks[task].leave(Task.FINISHED);
            tasks[task].output = output;
            return 1;
        }

        private int cancel(int task) {
            if (!isTask(task) || tasks[task].state != Task.WAITS && tasks[task].state != Task.RUNS) {
                return 0;
            }
            tasks[task].leave(Task.CANCELLED);
            return 1;
        }

        private int endLease(int worker) {
            if (!isWorker(worker)) {
                return 0;
            }
            int ended = 0;
            for (int k = 0; k < taskCount; k++) {
                if (tasks[k].place == worker) {
                    tasks[k].leave(Task.WAITS);
                    ended++;
                }
            }
            return ended;
        }

        private int standing(int task) {
            return isTask(task) ? 1000 * tasks[task].state + tasks[task].attempt : NONE;
        }

        /** Who waits is noted first: a task that gives way here must not be begun again here. */
        private int placeTasks() {
            for (int k = 0; k < taskCount; k++) {
                waitedAtFirst[k] = tasks[k].state == Task.WAITS;
            }
            int begun = 0;
            for (int priority = GREATEST_PRIORITY; priority >= 0; priority--) {
                for (int k = 0; k < taskCount; k++) {
                    if (waitedAtFirst[k] && tasks[k].priority == priority && tryToBegin(tasks[k])) {
                        begun++;
                    }
                }
            }
            return begun;
        }

        private boolean tryToBegin(Task task) {
            boolean mayBegin = (!isTask(task.before) || tasks[task.before].state == Task.FINISHED)
                && usedBy(task.user) + task.need <= quotas[task.user];
            if (!mayBegin) {
                return false;
            }
            int worker = bestFit(task.need);
            if (worker == NONE) {
                worker = easiestToClear(task);
                if (worker == NONE) {
                    return false;
                }
                int count = noteLeaving(worker, task, freeOn(worker));
                for (int k = 0; k < count && k < MOST_TASKS; k++) {
                    tasks[leaving[k]].leave(Task.WAITS);
                }
            }
            task.beginOn(worker);
            return true;
        }

        private int bestFit(int need) {
            int best = NONE;
            int leastFree = MOST_SIZE + 1;
            for (int w = 0; w < workerCount; w++) {
                int free = freeOn(w);
                if (free >= need && free < leastFree) {
                    best = w;
                    leastFree = free;
                }
            }
            return best;
        }

        private int easiestToClear(Task task) {
            int best = NONE;
            int fewest = MOST_TASKS + 1;
            for (int w = 0; w < workerCount; w++) {
                int count = noteLeaving(w, task, freeOn(w));
                if (count < fewest) {
                    best = w;
                    fewest = count;
                }
            }
            return best;
        }

        /** How many must give way, noted in their order: more than there are, if even all are not enough. */
        private int noteLeaving(int worker, Task task, int free) {
            int room = free;
            int count = 0;
            for (int priority = 0; priority < task.priority; priority++) {
                for (int k = taskCount - 1; k >= 0 && room < task.need; k--) {
                    if (tasks[k].place == worker && tasks[k].priority == priority) {
                        room += tasks[k].need;
                        leaving[count] = k;
                        count++;
                    }
                }
            }
            return room >= task.need ? count : MOST_TASKS + 1;
        }

        int freeOn(int worker) {
            int free = capacities[worker];
            for (int k = 0; k < taskCount; k++) {
                if (tasks[k].place == worker) {
                    free -= tasks[k].need;
                }
            }
            return free;
        }

        int usedBy(int user) {
            int used = 0;
            for (int k = 0; k < taskCount; k++) {
                if (tasks[k].user == user && tasks[k].state == Task.RUNS) {
                    used += tasks[k].need;
                }
            }
            return used;
        }

        boolean keepsBounds() {
            for (int w = 0; w < workerCount; w++) {
                if (freeOn(w) < 0) {
                    return false;
                }
            }
            for (int user = 0; user < USERS; user++) {
                if (usedBy(user) > bounds[user]) {
                    return false;
                }
            }
            return true;
        }
    }
}
