import java.util.ArrayList;
import java.util.Comparator;
import java.util.List;

/**
 * The document once more, written for plainness alone: after every call that brings
 * messages the scheduler is made anew from the orders done, and a call that has used
 * up its messages is left by an exception.
 */
final class PlainHerd {
    static final class UsedUp extends RuntimeException {
        private static final long serialVersionUID = 1L;
    }

    static final class Peer {
        int view = 0;
        int normal = 0;
        int done = 0;
        boolean up = true;
        List<List<Integer>> log = new ArrayList<>();
    }

    static final class Job {
        int number;
        int user;
        int need;
        int priority;
        int before;
        int stands = 0;
        int attempt = 0;
        int worker = -1;
        int output = 0;
    }

    static final class Plan {
        final int[] quota = new int[4];
        final List<Integer> capacity = new ArrayList<>();
        final List<Job> jobs = new ArrayList<>();
        final List<Integer> answers = new ArrayList<>();
    }

    final int n;
    final List<Peer> peers = new ArrayList<>();
    final boolean[][] link;
    /** Kept from one call that brings messages to the next. */
    private Plan[] plans;
    int left = 0;
    int brought = 0;
    int answered = 0;

    PlainHerd(int n) {
        this.n = n == 5 ? 5 : 3;
        link = new boolean[this.n][this.n];
        plans = new Plan[this.n];
        for (int i = 0; i < this.n; i++) {
            peers.add(new Peer());
            for (int j = 0; j < this.n; j++) {
                link[i][j] = true;
            }
        }
    }

    private boolean none(int master) {
        return master < 0 || master >= n;
    }

    private void message() {
        if (left == 0) {
            throw new UsedUp();
        }
        left--;
        brought++;
    }

    private List<Peer> reachedBy(int master) {
        List<Peer> reached = new ArrayList<>();
        for (int i = 0; i < n; i++) {
            if (i != master && link[i][master] && peers.get(i).up && peers.get(master).up) {
                reached.add(peers.get(i));
            }
        }
        return reached;
    }

    boolean link(int a, int b, boolean on) {
        if (none(a) || none(b) || a == b) {
            return false;
        }
        link[a][b] = on;
        link[b][a] = on;
        return true;
    }

    boolean up(int master, boolean on) {
        if (none(master)) {
            return false;
        }
        peers.get(master).up = on;
        return true;
    }

    int change(int master, int messages) {
        if (none(master) || messages < 0 || messages > 40) {
            return -1;
        }
        Peer me = peers.get(master);
        if (!me.up) {
            return -3;
        }
        left = messages;
        plans = new Plan[n];
        do {
            me.view++;
        } while (me.view % n != master);
        try {
            List<Peer> together = new ArrayList<>(List.of(me));
            for (Peer p : reachedBy(master)) {
                if (together.size() > n / 2) {
                    break;
                }
                message();
                p.view = Math.max(p.view, me.view);
                if (p.view == me.view && p.normal != p.view) {
                    message();
                    together.add(p);
                }
            }
            if (together.size() > n / 2) {
                int done = together.stream().mapToInt(p -> p.done).max().getAsInt();
                int normal = together.stream().mapToInt(p -> p.normal).max().getAsInt();
                int length = together.stream().filter(p -> p.normal == normal).mapToInt(p -> p.log.size()).max().getAsInt();
                me.log = new ArrayList<>(together.stream()
                    .filter(p -> p.normal == normal && p.log.size() == length).findFirst().get().log);
                me.done = done;
                me.normal = me.view;
                for (Peer p : reachedBy(master)) {
                    message();
                    take(p, me);
                }
            }
        } catch (UsedUp e) {
            left = 0;
        }
        return me.normal == me.view ? me.view : -2;
    }

    private static boolean take(Peer p, Peer from) {
        if (p.view <= from.view) {
            p.view = from.view;
            p.normal = from.view;
            p.log = new ArrayList<>(from.log);
            p.done = Math.max(p.done, from.done);
            return true;
        }
        return false;
    }

    int order(int master, int client, int number, List<Integer> rest, int messages) {
        if (none(master) || client < 0 || client > 3 || number < 1 || number > 1000 || messages < 0 || messages > 40) {
            return -1;
        }
        Peer me = peers.get(master);
        if (!me.up || me.normal != me.view || me.view % n != master) {
            return -3;
        }
        boolean known = false;
        for (int k = 0; k < me.log.size(); k++) {
            if (me.log.get(k).get(0) == client && me.log.get(k).get(1) >= number) {
                known = true;
                if (me.log.get(k).get(1) == number && k < me.done) {
                    answered++;
                    return plan(master).answers.get(k);
                }
            }
        }
        if (known || me.log.size() == 60) {
            return -3;
        }
        List<Integer> entry = new ArrayList<>(List.of(client, number));
        entry.addAll(rest);
        me.log.add(entry);
        left = messages;
        plans = new Plan[n];
        try {
            int have = 1;
            for (Peer p : reachedBy(master)) {
                message();
                if (take(p, me)) {
                    message();
                    have++;
                }
                if (have > n / 2) {
                    me.done = me.log.size();
                }
            }
        } catch (UsedUp e) {
            left = 0;
        }
        if (me.done < me.log.size()) {
            return -2;
        }
        answered++;
        return plan(master).answers.get(me.done - 1);
    }

    int told(int master, int what) {
        if (none(master) || what < 0 || what > 4) {
            return -1;
        }
        Peer p = peers.get(master);
        return List.of(p.view, p.normal, p.log.size(), p.done, p.up ? 1 : 0).get(what);
    }

    int log(int master, int k, int what) {
        if (none(master) || k < 0 || k >= peers.get(master).log.size() || what < 0 || what > 6) {
            return -1;
        }
        return peers.get(master).log.get(k).get(what);
    }

    int task(int master, int k, int what) {
        if (none(master) || k < 0 || k >= plan(master).jobs.size() || what < 0 || what > 3) {
            return -1;
        }
        Job job = plan(master).jobs.get(k);
        return List.of(job.stands, job.attempt, job.stands == 1 ? job.worker : -1, job.output).get(what);
    }

    int worker(int master, int k, int what) {
        if (none(master) || k < 0 || k >= plan(master).capacity.size() || what < 0 || what > 1) {
            return -1;
        }
        return what == 0 ? plan(master).capacity.get(k) : free(plan(master), k);
    }

    int used(int master, int user) {
        if (none(master) || user < 0 || user > 3) {
            return -1;
        }
        return used(plan(master), user);
    }

    int count(int what) {
        if (what < 0 || what > 3) {
            return -1;
        }
        return List.of(n, brought, answered, peers.stream().mapToInt(p -> p.view).max().getAsInt()).get(what);
    }

    private Plan plan(int master) {
        if (plans[master] == null) {
            plans[master] = newPlan(master);
        }
        return plans[master];
    }

    private Plan newPlan(int master) {
        Plan plan = new Plan();
        Peer p = peers.get(master);
        for (List<Integer> entry : p.log.subList(0, p.done)) {
            plan.answers.add(answer(plan, entry.get(2), entry.get(3), entry.get(4), entry.get(5), entry.get(6)));
        }
        return plan;
    }

    private static boolean in(int least, int number, int greatest) {
        return least <= number && number <= greatest;
    }

    private static int free(Plan plan, int worker) {
        return plan.capacity.get(worker)
            - plan.jobs.stream().filter(j -> j.stands == 1 && j.worker == worker).mapToInt(j -> j.need).sum();
    }

    private static int used(Plan plan, int user) {
        return plan.jobs.stream().filter(j -> j.stands == 1 && j.user == user).mapToInt(j -> j.need).sum();
    }

    private static int answer(Plan plan, int kind, int a, int b, int c, int d) {
        Job job = in(0, a, plan.jobs.size() - 1) ? plan.jobs.get(a) : null;
        if (kind == 0) {
            if (!in(0, a, 3) || !in(0, b, 60)) {
                return 0;
            }
            plan.quota[a] = b;
            return 1;
        }
        if (kind == 1) {
            if (!in(1, a, 20) || plan.capacity.size() == 6) {
                return -1;
            }
            plan.capacity.add(a);
            return plan.capacity.size() - 1;
        }
        if (kind == 2) {
            return newJob(plan, a, b, c, d);
        }
        if (kind == 3) {
            return placing(plan);
        }
        if (kind == 4) {
            if (job == null || job.stands != 1 || job.attempt != b) {
                return 0;
            }
            job.stands = 2;
            job.output = c;
            return 1;
        }
        if (kind == 5) {
            if (job == null || job.stands > 1) {
                return 0;
            }
            job.stands = 3;
            return 1;
        }
        if (kind == 6) {
            List<Job> ran = plan.jobs.stream().filter(j -> j.stands == 1 && j.worker == a).toList();
            ran.forEach(j -> j.stands = 0);
            return ran.size();
        }
        return kind == 7 && job != null ? 1000 * job.stands + job.attempt : -1;
    }

    private static int newJob(Plan plan, int user, int need, int priority, int before) {
        if (!in(0, user, 3) || !in(1, need, 20) || !in(0, priority, 3) || !in(-1, before, plan.jobs.size() - 1)
            || plan.jobs.size() == 20) {
            return -1;
        }
        Job job = new Job();
        job.number = plan.jobs.size();
        job.user = user;
        job.need = need;
        job.priority = priority;
        job.before = before;
        plan.jobs.add(job);
        return job.number;
    }

    private static int placing(Plan plan) {
        List<Job> waiting = new ArrayList<>(plan.jobs.stream().filter(j -> j.stands == 0).toList());
        waiting.sort(Comparator.<Job>comparingInt(j -> -j.priority).thenComparingInt(j -> j.number));
        int begun = 0;
        for (Job job : waiting) {
            boolean ready = job.before == -1 || plan.jobs.get(job.before).stands == 2;
            if (!ready || used(plan, job.user) + job.need > plan.quota[job.user]) {
                continue;
            }
            int best = -1;
            List<Job> bestLeave = null;
            for (int w = 0; w < plan.capacity.size(); w++) {
                List<Job> leave = leaving(plan, job, w);
                if (leave == null) {
                    continue;
                }
                boolean better = best == -1 || leave.size() < bestLeave.size()
                    || leave.isEmpty() && bestLeave.isEmpty() && free(plan, w) < free(plan, best);
                if (better) {
                    best = w;
                    bestLeave = leave;
                }
            }
            if (best != -1) {
                bestLeave.forEach(j -> j.stands = 0);
                job.stands = 1;
                job.worker = best;
                job.attempt++;
                begun++;
            }
        }
        return begun;
    }

    /** Those that must give way on that worker, none of them if there is room, or null. */
    private static List<Job> leaving(Plan plan, Job job, int worker) {
        List<Job> lower = new ArrayList<>(plan.jobs.stream()
            .filter(j -> j.stands == 1 && j.worker == worker && j.priority < job.priority).toList());
        lower.sort(Comparator.<Job>comparingInt(j -> j.priority).thenComparingInt(j -> -j.number));
        List<Job> leave = new ArrayList<>();
        int room = free(plan, worker);
        for (Job j : lower) {
            if (room >= job.need) {
                break;
            }
            room += j.need;
            leave.add(j);
        }
        return room >= job.need ? leave : null;
    }
}
