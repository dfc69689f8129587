/** Assigns jobs to unlike machines so that they are finished early on the whole. */
public final class FlowTimeDesk {
    public static final int BAD = -1;
    public static final int FULL = -2;
    public static final int NONE = -1;

    private static final int MAX_MACHINES = 3;
    private static final int MAX_JOBS = 5;
    private static final int MAX_TIME = 15;

    // One column more than there can be machines: leastDoubled puts its further machine there.
    private static final int COLUMNS = 4;
    private static final int SPARE = 3;
    private static final int CELLS = MAX_JOBS * COLUMNS;

    // A plan is a number of five digits to the base COLUMNS, the machines of the jobs, with job 0
    // in the highest place, so that counting upwards goes through the plans in dictionary order.
    // The digit of an absent job is 0. The order on each machine need not be kept: doing the
    // shorter jobs first gives the least total for these machines, and is the first plan's order.
    private static final int DIGIT_BITS = 2;
    private static final int PLANS = 1 << (DIGIT_BITS * MAX_JOBS);

    private final int machines;
    private final int everyMachine;
    private final int[] times = new int[CELLS];
    private int present;

    public FlowTimeDesk(int machines) {
        this.machines = machines < 1 ? 1 : machines > MAX_MACHINES ? MAX_MACHINES : machines;
        this.everyMachine = (1 << this.machines) - 1;
        this.present = 0;
    }

    public int add(int a, int b, int c) {
        // What is given for a machine that is not there may be any int, so it is not looked at.
        int second = machines > 1 ? b : 0;
        int third = machines > 2 ? c : 0;
        if (!isTime(a) || !isTime(second) || !isTime(third)) {
            return BAD;
        }
        if (a == 0 && second == 0 && third == 0) {
            return BAD;
        }
        int j = leastFreeNumber();
        if (j == MAX_JOBS) {
            return FULL;
        }
        times[j * COLUMNS] = a;
        times[j * COLUMNS + 1] = second;
        times[j * COLUMNS + 2] = third;
        present |= 1 << j;
        return j;
    }

    public boolean remove(int j) {
        if (!isJob(j)) {
            return false;
        }
        present &= ~(1 << j);
        return true;
    }

    public boolean setTime(int j, int m, int t) {
        if (!isJob(j) || !isMachine(m) || !isTime(t)) {
            return false;
        }
        if (t == 0 && !canBeDoneElsewhere(j, m)) {
            return false;
        }
        times[j * COLUMNS + m] = t;
        return true;
    }

    public int jobs() {
        return present;
    }

    public int time(int j, int m) {
        if (!isJob(j) || !isMachine(m)) {
            return NONE;
        }
        return times[j * COLUMNS + m];
    }

    public int least() {
        int options = optionsOn(everyMachine);
        return leastTotal(present, options);
    }

    public int machineOf(int j) {
        if (!isJob(j)) {
            return NONE;
        }
        int options = optionsOn(everyMachine);
        int plan = firstPlan(present, options);
        return machineIn(plan, j);
    }

    public int finishOf(int j) {
        if (!isJob(j)) {
            return NONE;
        }
        int options = optionsOn(everyMachine);
        int plan = firstPlan(present, options);
        return finishIn(plan, present, j);
    }

    public int leastWith(int j, int m) {
        if (!isJob(j) || !isMachine(m)) {
            return NONE;
        }
        int options = optionsOn(everyMachine);
        int othersOfJob = optionsOfJob(j) & ~optionBit(j, m);
        return leastTotal(present, options & ~othersOfJob);
    }

    public int leastWithout(int j) {
        if (!isJob(j)) {
            return NONE;
        }
        int options = optionsOn(everyMachine);
        return leastTotal(present & ~(1 << j), options);
    }

    public int leastDoubled(int m) {
        if (!isMachine(m)) {
            return NONE;
        }
        copyToSpare(m);
        int options = optionsOn(everyMachine | 1 << SPARE);
        return leastTotal(present, options);
    }

    public int leastIdle(int m) {
        if (!isMachine(m)) {
            return NONE;
        }
        int options = optionsOn(everyMachine & ~(1 << m));
        return leastTotal(present, options);
    }

    public int mostJobs(int m) {
        if (!isMachine(m)) {
            return NONE;
        }
        int options = optionsOn(everyMachine);
        int least = leastTotal(present, options);
        int most = 0;
        for (int plan = 0; plan < PLANS; plan++) {
            if (isPlan(plan, present, options) && totalOf(plan, present) == least) {
                int count = jobsOnMachine(plan, m);
                most = count > most ? count : most;
            }
        }
        return most;
    }

    private boolean isJob(int j) {
        return j >= 0 && j < MAX_JOBS && has(present, j);
    }

    private boolean isMachine(int m) {
        return m >= 0 && m < machines;
    }

    private static boolean isTime(int t) {
        return t >= 0 && t <= MAX_TIME;
    }

    private static boolean has(int set, int bit) {
        return (set >> bit & 1) != 0;
    }

    private int leastFreeNumber() {
        for (int j = 0; j < MAX_JOBS; j++) {
            if (!has(present, j)) {
                return j;
            }
        }
        return MAX_JOBS;
    }

    private boolean canBeDoneElsewhere(int j, int m) {
        for (int other = 0; other < machines; other++) {
            if (other != m && times[j * COLUMNS + other] != 0) {
                return true;
            }
        }
        return false;
    }

    private void copyToSpare(int m) {
        for (int j = 0; j < MAX_JOBS; j++) {
            times[j * COLUMNS + SPARE] = times[j * COLUMNS + m];
        }
    }

    private static int optionBit(int j, int column) {
        return 1 << (j * COLUMNS + column);
    }

    private static int optionsOfJob(int j) {
        return ((1 << COLUMNS) - 1) << (j * COLUMNS);
    }

    /** An option bit for every job and each of these columns that can do it; absent jobs' bits are not read. */
    private int optionsOn(int columns) {
        int options = 0;
        for (int j = 0; j < MAX_JOBS; j++) {
            for (int column = 0; column < COLUMNS; column++) {
                if (has(columns, column) && times[j * COLUMNS + column] != 0) {
                    options |= optionBit(j, column);
                }
            }
        }
        return options;
    }

    private static int machineIn(int plan, int j) {
        return plan >> (DIGIT_BITS * (MAX_JOBS - 1 - j)) & (COLUMNS - 1);
    }

    private static boolean isPlan(int plan, int jobs, int options) {
        for (int j = 0; j < MAX_JOBS; j++) {
            int column = machineIn(plan, j);
            boolean fits = has(jobs, j) ? has(options, j * COLUMNS + column) : column == 0;
            if (!fits) {
                return false;
            }
        }
        return true;
    }

    /** The first of the plans with the least total for these jobs and options; NONE without a plan. */
    private int firstPlan(int jobs, int options) {
        int first = NONE;
        int least = 0;
        for (int plan = 0; plan < PLANS; plan++) {
            if (isPlan(plan, jobs, options)) {
                int total = totalOf(plan, jobs);
                if (first == NONE || total < least) {
                    first = plan;
                    least = total;
                }
            }
        }
        return first;
    }

    private int leastTotal(int jobs, int options) {
        int plan = firstPlan(jobs, options);
        return plan == NONE ? NONE : totalOf(plan, jobs);
    }

    private int totalOf(int plan, int jobs) {
        int total = 0;
        for (int j = 0; j < MAX_JOBS; j++) {
            if (has(jobs, j)) {
                total += finishIn(plan, jobs, j);
            }
        }
        return total;
    }

    private int finishIn(int plan, int jobs, int j) {
        int column = machineIn(plan, j);
        int own = times[j * COLUMNS + column];
        int finish = own;
        for (int i = 0; i < MAX_JOBS; i++) {
            if (i != j && has(jobs, i) && machineIn(plan, i) == column) {
                int other = times[i * COLUMNS + column];
                boolean before = other < own || other == own && i < j;
                finish += before ? other : 0;
            }
        }
        return finish;
    }

    private int jobsOnMachine(int plan, int m) {
        int count = 0;
        for (int j = 0; j < MAX_JOBS; j++) {
            if (has(present, j) && machineIn(plan, j) == m) {
                count++;
            }
        }
        return count;
    }
}
