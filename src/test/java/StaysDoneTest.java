import java.util.ArrayList;
import java.util.Arrays;
import java.util.HashSet;
import java.util.List;
import java.util.Set;

/**
 * What a majority has is done, and stays done whatever fails between two messages: all short runs of
 * orders and changes of view, each with every number of messages, with masters down and links cut between them.
 */
final class StaysDoneTest {
    private static final int CLIENT = 0;
    private static final int PARTS = 7;

    /** One run: the calls made, and the longest row of orders done that any master has ever known. */
    private static final class Run {
        final HerdMasters herd;
        final int n;
        final boolean[] isDown;
        final boolean[] isCut;
        final List<int[]> done = new ArrayList<>();
        final int[] known;
        final List<int[]> answered = new ArrayList<>();
        final StringBuilder calls = new StringBuilder();
        int number = 0;

        Run(int n) {
            this.n = n;
            herd = new HerdMasters(n);
            isDown = new boolean[n];
            isCut = new boolean[n * n];
            known = new int[n];
        }

        void step(int[] call) {
            calls.append(' ').append(Arrays.toString(call));
            switch (call[0]) {
                case 0: order(call[1], call[2]); break;
                case 1: herd.change(call[1], call[2]); break;
                case 2:
                    isDown[call[1]] = !isDown[call[1]];
                    herd.up(call[1], !isDown[call[1]]);
                    break;
                default:
                    int link = call[1] * n + call[2];
                    isCut[link] = !isCut[link];
                    herd.link(call[1], call[2], !isCut[link]);
            }
        }

        /** Each order is another one, so that one that was lost is seen by its number. */
        private void order(int master, int messages) {
            number++;
            int answer = herd.order(master, CLIENT, number, 1, 1 + number, 0, 0, 0, messages);
            if (answer >= 0) {
                answered.add(new int[] {number, answer});
            }
        }

        private int[] entry(int master, int k) {
            int[] parts = new int[PARTS];
            for (int what = 0; what < PARTS; what++) {
                parts[what] = herd.log(master, k, what);
            }
            return parts;
        }

        /** Of what each master knows to be done, none is forgotten, nor other than what was ever done. */
        boolean doneIsTheSame() {
            for (int m = 0; m < n; m++) {
                if (herd.told(m, 3) > herd.told(m, 2) || herd.told(m, 3) < known[m]) {
                    return false;
                }
                known[m] = herd.told(m, 3);
                for (int k = 0; k < known[m]; k++) {
                    if (k == done.size()) {
                        done.add(entry(m, k));
                    } else if (!Arrays.equals(done.get(k), entry(m, k))) {
                        return false;
                    }
                }
            }
            return true;
        }

        private int leaderOfLastView() {
            int view = 0;
            for (int m = 0; m < n; m++) {
                view = Math.max(view, herd.told(m, 1));
            }
            return view % n;
        }

        /** Whoever leads last has every order that was ever done, where it was done. */
        boolean leaderHasAll() {
            int leader = leaderOfLastView();
            boolean hasAll = herd.told(leader, 2) >= done.size();
            for (int k = 0; hasAll && k < done.size(); k++) {
                hasAll = Arrays.equals(done.get(k), entry(leader, k));
            }
            return hasAll;
        }

        /** When all are up and linked again, the next leader gives each client the answer that it had. */
        boolean answersStand() {
            for (int m = 0; m < n; m++) {
                herd.up(m, true);
                for (int other = 0; other < m; other++) {
                    herd.link(m, other, true);
                }
            }
            int leader = leaderOfLastView();
            int view = HerdMasters.OPEN;
            for (int tries = 0; tries < 20 && view < 0; tries++) {
                view = herd.change(leader, 40);
            }
            boolean stand = herd.order(leader, CLIENT, number + 1, 7, 0, 0, 0, 0, 40) == -1;
            for (int[] each : answered) {
                stand &= herd.order(leader, CLIENT, each[0], 1, 0, 0, 0, 0, 40) == each[1];
            }
            return stand && herd.agree();
        }

        /** All that can be told of the masters' views and logs, to go on from each such state but once. */
        String state() {
            StringBuilder text = new StringBuilder();
            for (int m = 0; m < n; m++) {
                for (int what = 0; what < 5; what++) {
                    text.append((char) herd.told(m, what));
                }
                for (int k = 0; k < herd.told(m, 2); k++) {
                    text.append((char) herd.log(m, k, 1));
                }
                for (int other = m + 1; other < n; other++) {
                    text.append(isCut[m * n + other] ? 'x' : '-');
                }
            }
            return text.append((char) number).append((char) done.size()).toString();
        }
    }

    private static List<int[]> callsOf(int n, int mostMessages) {
        List<int[]> calls = new ArrayList<>();
        for (int m = 0; m < n; m++) {
            for (int messages = 0; messages <= mostMessages; messages++) {
                calls.add(new int[] {0, m, messages});
                calls.add(new int[] {1, m, messages});
            }
            calls.add(new int[] {2, m});
            for (int other = m + 1; other < n; other++) {
                calls.add(new int[] {3, m, other});
            }
        }
        return calls;
    }

    /** How many runs were made: every call behind every state that fewer calls can reach from such a beginning. */
    static int allRuns(int n, int mostMessages, int[][] beginning, int most) {
        List<int[]> calls = callsOf(n, mostMessages);
        Set<String> seen = new HashSet<>();
        List<int[][]> from = new ArrayList<>();
        from.add(beginning);
        int runs = 0;
        for (int more = 1; more <= most; more++) {
            List<int[][]> next = new ArrayList<>();
            for (int[][] path : from) {
                for (int[] call : calls) {
                    int[][] longer = Arrays.copyOf(path, path.length + 1);
                    longer[path.length] = call;
                    runs++;
                    if (seen.add(holds(n, longer))) {
                        next.add(longer);
                    }
                }
            }
            from = next;
        }
        return runs;
    }

    private static String holds(int n, int[][] path) {
        Run run = new Run(n);
        boolean same = true;
        boolean has = true;
        for (int[] call : path) {
            run.step(call);
            same &= run.doneIsTheSame();
            has &= run.leaderHasAll();
        }
        String state = run.state();
        Due.is("orders done are the same:" + run.calls, same, true);
        Due.is("who leads has all that is done:" + run.calls, has, true);
        Due.is("answers stand:" + run.calls, run.answersStand(), true);
        return state;
    }

    public static void main(String[] args) {
        int[][] none = {};
        Due.is("runs of three masters", allRuns(3, 6, none, 4) > 100000, true);
        Due.is("runs of five masters", allRuns(5, 12, none, 2) > 5000, true);
        int[][] oldLeaderHasMore = {{0, 0, 0}, {0, 0, 0}, {3, 0, 1}};
        Due.is("runs with an old leader of a longer log", allRuns(3, 4, oldLeaderHasMore, 3) > 10000, true);
        int[][] halfChanged = {{0, 0, 2}, {1, 1, 1}, {1, 2, 1}};
        Due.is("runs with changes that were broken off", allRuns(3, 4, halfChanged, 3) > 10000, true);
        Due.end();
    }
}
