import java.util.Random;

/**
 * Compares long runs of calls with a model that follows the document's terms by the letter: it
 * tries every machine for every job and every order, and knows nothing of short jobs first.
 */
public final class ModelTest {
    private static final int RUNS = 150;
    private static final int CALLS = 512;
    private static final int[] ODD = {Integer.MIN_VALUE, -32, -1, 16, 31, 32, 36, Integer.MAX_VALUE};

    private static final Checks checks = new Checks();

    private static int machines;
    private static boolean[] present;
    private static int[][] time;

    public static void main(String[] args) {
        Random random = new Random(20261115L);
        for (int run = 0; run < RUNS; run++) {
            runCalls(run, random);
        }
        checks.close("ModelTest");
    }

    private static void runCalls(int run, Random random) {
        int given = run % 25 == 0 ? ODD[random.nextInt(ODD.length)] : random.nextInt(5);
        FlowTimeDesk x = new FlowTimeDesk(given);
        machines = Math.max(1, Math.min(3, given));
        present = new boolean[5];
        time = new int[5][4];
        // Few different times make many ties, where the first plan and mostJobs are hard.
        int greatest = run % 3 == 0 ? 2 : run % 3 == 1 ? 5 : 15;
        for (int call = 0; call < CALLS; call++) {
            if (random.nextInt(6) == 0) {
                change(run + "." + call, x, random, greatest);
            } else {
                ask(run + "." + call, x, random);
            }
        }
    }

    private static int anyTime(Random random, int greatest) {
        int kind = random.nextInt(40);
        return kind == 0 ? ODD[random.nextInt(ODD.length)] : kind < 10 ? 0 : random.nextInt(greatest + 1);
    }

    private static int anyNumber(Random random, int bound) {
        return random.nextInt(30) == 0 ? ODD[random.nextInt(ODD.length)] : random.nextInt(bound + 1);
    }

    private static void change(String at, FlowTimeDesk x, Random random, int greatest) {
        int kind = random.nextInt(8);
        if (kind < 4) {
            int a = anyTime(random, greatest);
            int b = anyTime(random, greatest);
            int c = anyTime(random, greatest);
            checks.due(at + " add(" + a + ", " + b + ", " + c + ")", add(a, b, c), x.add(a, b, c));
        } else if (kind < 5) {
            int j = anyNumber(random, 5);
            checks.due(at + " remove(" + j + ")", remove(j), x.remove(j));
        } else {
            int j = anyNumber(random, 5);
            int m = anyNumber(random, 3);
            int t = anyTime(random, greatest);
            checks.due(at + " setTime(" + j + ", " + m + ", " + t + ")", setTime(j, m, t), x.setTime(j, m, t));
        }
    }

    private static void ask(String at, FlowTimeDesk x, Random random) {
        int j = anyNumber(random, 5);
        int m = anyNumber(random, 3);
        String ofJob = "(" + j + ")";
        String ofMachine = "(" + m + ")";
        String ofBoth = "(" + j + ", " + m + ")";
        switch (random.nextInt(10)) {
            case 0 -> checks.due(at + " jobs()", jobs(), x.jobs());
            case 1 -> checks.due(at + " time" + ofBoth, isJob(j) && isMachine(m) ? time[j][m] : -1, x.time(j, m));
            case 2 -> checks.due(at + " least()", new Plans(machines).least, x.least());
            case 3 -> checks.due(at + " machineOf" + ofJob, isJob(j) ? new Plans(machines).first[j] : -1, x.machineOf(j));
            case 4 -> checks.due(at + " finishOf" + ofJob, isJob(j) ? finishInFirst(j) : -1, x.finishOf(j));
            case 5 -> checks.due(at + " leastWith" + ofBoth, leastWith(j, m), x.leastWith(j, m));
            case 6 -> checks.due(at + " leastWithout" + ofJob, leastWithout(j), x.leastWithout(j));
            case 7 -> checks.due(at + " leastDoubled" + ofMachine, leastDoubled(m), x.leastDoubled(m));
            case 8 -> checks.due(at + " leastIdle" + ofMachine, leastIdle(m), x.leastIdle(m));
            default -> checks.due(at + " mostJobs" + ofMachine, mostJobs(m), x.mostJobs(m));
        }
    }

    // The model

    private static boolean isJob(int j) {
        return j >= 0 && j < 5 && present[j];
    }

    private static boolean isMachine(int m) {
        return m >= 0 && m < machines;
    }

    private static int add(int... given) {
        int doable = 0;
        for (int m = 0; m < machines; m++) {
            if (given[m] < 0 || given[m] > 15) {
                return FlowTimeDesk.BAD;
            }
            doable += given[m] > 0 ? 1 : 0;
        }
        if (doable == 0) {
            return FlowTimeDesk.BAD;
        }
        for (int j = 0; j < 5; j++) {
            if (!present[j]) {
                present[j] = true;
                System.arraycopy(given, 0, time[j], 0, machines);
                return j;
            }
        }
        return FlowTimeDesk.FULL;
    }

    private static boolean remove(int j) {
        boolean was = isJob(j);
        if (was) {
            present[j] = false;
        }
        return was;
    }

    private static boolean setTime(int j, int m, int t) {
        if (!isJob(j) || !isMachine(m) || t < 0 || t > 15) {
            return false;
        }
        int sum = t;
        for (int other = 0; other < machines; other++) {
            sum += other == m ? 0 : time[j][other];
        }
        if (sum == 0) {
            return false;
        }
        time[j][m] = t;
        return true;
    }

    private static int jobs() {
        int set = 0;
        for (int j = 0; j < 5; j++) {
            set += present[j] ? 1 << j : 0;
        }
        return set;
    }

    private static int finishInFirst(int j) {
        int[] first = new Plans(machines).first;
        int m = first[j];
        int clock = 0;
        for (int t = 1; t <= 15; t++) {
            for (int i = 0; i < 5; i++) {
                if (present[i] && first[i] == m && time[i][m] == t) {
                    clock += t;
                    if (i == j) {
                        return clock;
                    }
                }
            }
        }
        return Integer.MIN_VALUE;
    }

    private static int leastWith(int j, int m) {
        if (!isJob(j) || !isMachine(m)) {
            return FlowTimeDesk.NONE;
        }
        int[] kept = time[j].clone();
        for (int other = 0; other < machines; other++) {
            time[j][other] = other == m ? kept[m] : 0;
        }
        int least = new Plans(machines).least;
        time[j] = kept;
        return least;
    }

    private static int leastWithout(int j) {
        if (!isJob(j)) {
            return FlowTimeDesk.NONE;
        }
        present[j] = false;
        int least = new Plans(machines).least;
        present[j] = true;
        return least;
    }

    private static int leastDoubled(int m) {
        if (!isMachine(m)) {
            return FlowTimeDesk.NONE;
        }
        for (int j = 0; j < 5; j++) {
            time[j][machines] = time[j][m];
        }
        return new Plans(machines + 1).least;
    }

    private static int leastIdle(int m) {
        if (!isMachine(m)) {
            return FlowTimeDesk.NONE;
        }
        int[] kept = new int[5];
        for (int j = 0; j < 5; j++) {
            kept[j] = time[j][m];
            time[j][m] = 0;
        }
        int least = new Plans(machines).least;
        for (int j = 0; j < 5; j++) {
            time[j][m] = kept[j];
        }
        return least;
    }

    private static int mostJobs(int m) {
        return isMachine(m) ? new Plans(machines).most[m] : FlowTimeDesk.NONE;
    }

    /** All plans of the present jobs on so many machines. */
    private static final class Plans {
        private final int columns;
        private final int[] chosen = new int[5];
        int least = FlowTimeDesk.NONE;
        int[] first = new int[5];
        int[] most = new int[4];

        Plans(int columns) {
            this.columns = columns;
            choose(0);
        }

        /** Goes through the machines of job j and of those behind it, in dictionary order. */
        private void choose(int j) {
            if (j == 5) {
                take();
                return;
            }
            if (!present[j]) {
                chosen[j] = -1;
                choose(j + 1);
                return;
            }
            for (int m = 0; m < columns; m++) {
                if (time[j][m] > 0) {
                    chosen[j] = m;
                    choose(j + 1);
                }
            }
        }

        private void take() {
            int total = 0;
            int[] count = new int[4];
            for (int m = 0; m < columns; m++) {
                total += leastOrder(m, 0, 0);
            }
            for (int j = 0; j < 5; j++) {
                if (present[j]) {
                    count[chosen[j]]++;
                }
            }
            if (least == FlowTimeDesk.NONE || total < least) {
                least = total;
                first = chosen.clone();
                most = new int[4];
            }
            if (total == least) {
                for (int m = 0; m < 4; m++) {
                    most[m] = Math.max(most[m], count[m]);
                }
            }
        }

        /** The least sum of finishing times over all orders of the jobs of m that are not done yet. */
        private int leastOrder(int m, int done, int clock) {
            int best = -1;
            for (int j = 0; j < 5; j++) {
                if (chosen[j] == m && (done >> j & 1) == 0) {
                    int finish = clock + time[j][m];
                    int sum = finish + leastOrder(m, done | 1 << j, finish);
                    best = best < 0 ? sum : Math.min(best, sum);
                }
            }
            return Math.max(best, 0);
        }
    }
}
