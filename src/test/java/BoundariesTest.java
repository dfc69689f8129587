/**
 * A test of its own for each sentence of the document that names a boundary of what is answered:
 * too small, too large, empty, full, equal. The refused calls stand in RefusalsTest.
 */
public final class BoundariesTest {
    private static final int LOW = Integer.MIN_VALUE;
    private static final int HIGH = Integer.MAX_VALUE;

    private static final Checks checks = new Checks();

    public static void main(String[] args) {
        // What it is
        call512AfterChanges();
        call512AfterQuestions();
        call512AfterRefusals();
        // Terms
        leastAndGreatestTime();
        time0CantBeDone();
        leastTotalWithoutJobs();
        dictionaryOrder();
        dictionaryOrderGoesByNumbers();
        leastTotalGoesBeforeDictionaryOrder();
        shorterJobsFirst();
        equalTimesInTheOrderOfNumbers();
        // Promise 1
        newObjectHasNoJobs();
        tooFewMachines();
        tooManyMachines();
        machinesWithinTheLimits();
        // Promise 2
        anyIntsForMachinesThatAreNotThere();
        leastNumberNoJobHas();
        // Promises 5 and 7
        jobsWithNoJob();
        jobsWithAllFive();
        leastWithNoJob();
        leastWithAllFive();
        checks.close("BoundariesTest");
    }

    // "An object is used for at most 512 calls after it has been made": the 512th is one of them.

    private static void call512AfterChanges() {
        for (int last = 0; last < 13; last++) {
            FlowTimeDesk x = checks.desk(2, 5, 7, 0, 5, 0, 0);
            for (int turn = 0; turn < 169; turn++) {
                int t = turn % 15 + 1;
                checks.due("512: add", 2, x.add(t, 16 - t, 0));
                checks.due("512: setTime", true, x.setTime(2, 1, t));
                checks.due("512: remove", true, x.remove(2));
            }
            checks.due("call 510", true, x.setTime(0, 1, 15));
            checks.due("call 511", true, x.setTime(0, 1, 7));
            lastCall(last, x);
        }
    }

    private static void call512AfterQuestions() {
        for (int last = 0; last < 13; last++) {
            FlowTimeDesk x = checks.desk(2, 5, 7, 0, 5, 0, 0);
            for (int call = 3; call < 512; call++) {
                question(call % 10, x);
            }
            lastCall(last, x);
        }
    }

    private static void call512AfterRefusals() {
        for (int last = 0; last < 13; last++) {
            FlowTimeDesk x = checks.desk(2, 5, 7, 0, 5, 0, 0);
            for (int turn = 0; turn < 169; turn++) {
                checks.due("512: add", FlowTimeDesk.BAD, x.add(0, 0, 0));
                checks.due("512: setTime", false, x.setTime(1, 0, 0));
                checks.due("512: remove", false, x.remove(2));
            }
            checks.due("call 510", FlowTimeDesk.NONE, x.time(2, 0));
            checks.due("call 511", FlowTimeDesk.NONE, x.leastIdle(0));
            lastCall(last, x);
        }
    }

    /** The desk has the jobs (5, 7) and (5, can't be done). */
    private static void lastCall(int which, FlowTimeDesk x) {
        switch (which) {
            case 10 -> checks.due("call 512: add", 2, x.add(1, 1, 1));
            case 11 -> checks.due("call 512: remove", true, x.remove(1));
            case 12 -> checks.due("call 512: setTime", true, x.setTime(0, 0, 0));
            default -> question(which, x);
        }
    }

    private static void question(int which, FlowTimeDesk x) {
        switch (which) {
            case 0 -> checks.due("512: jobs", 0b11, x.jobs());
            case 1 -> checks.due("512: time", 7, x.time(0, 1));
            case 2 -> checks.due("512: least", 5 + 7, x.least());
            case 3 -> checks.due("512: machineOf", 1, x.machineOf(0));
            case 4 -> checks.due("512: finishOf", 7, x.finishOf(0));
            case 5 -> checks.due("512: leastWith", 5 + 10, x.leastWith(0, 0));
            case 6 -> checks.due("512: leastWithout", 5, x.leastWithout(1));
            case 7 -> checks.due("512: leastDoubled", 5 + 5, x.leastDoubled(0));
            case 8 -> checks.due("512: leastIdle", 5 + 10, x.leastIdle(1));
            default -> checks.due("512: mostJobs", 1, x.mostJobs(1));
        }
    }

    // "1 to 15, or can't be done there (time 0)"

    private static void leastAndGreatestTime() {
        for (int m = 0; m < 3; m++) {
            for (int t = 1; t <= 15; t += 14) {
                FlowTimeDesk x = checks.desk(3, m == 0 ? t : 0, m == 1 ? t : 0, m == 2 ? t : 0);
                checks.due("time " + t + " given to add", t, x.time(0, m));
                checks.due("least with time " + t, t, x.least());
                checks.due("machine for time " + t, m, x.machineOf(0));
                checks.due("finish with time " + t, t, x.finishOf(0));
                FlowTimeDesk y = checks.desk(3, 7, 7, 7);
                checks.due("setTime to " + t, true, y.setTime(0, m, t));
                checks.due("time " + t + " given to setTime", t, y.time(0, m));
                checks.due("leastWith at time " + t, t, y.leastWith(0, m));
            }
        }
    }

    private static void time0CantBeDone() {
        FlowTimeDesk x = checks.desk(3, 0, 15, 15, 15, 15, 15);
        checks.due("time 0 is told as 0", 0, x.time(0, 0));
        checks.due("time 0 is not a quick job", 15 + 15, x.least());
        checks.due("not on machine 0", 1, x.machineOf(0));
        checks.due("setTime(0, 1, 0)", true, x.setTime(0, 1, 0));
        checks.due("time 0 from setTime", 0, x.time(0, 1));
        checks.due("not on machine 1 either", 2, x.machineOf(0));
        checks.due("one job at most on machine 1", 1, x.mostJobs(1));
        checks.due("setTime(1, 1, 0)", true, x.setTime(1, 1, 0));
        checks.due("a machine that can do no job", 0, x.mostJobs(1));
        checks.due("doubling it helps nothing", 15 + 15, x.leastDoubled(1));
        checks.due("its rest harms nothing", 15 + 15, x.leastIdle(1));
    }

    // "0 when there are no jobs"

    private static void leastTotalWithoutJobs() {
        for (int machines = 1; machines <= 3; machines++) {
            FlowTimeDesk x = checks.desk(machines, 7, 8, 9);
            checks.due("without the only job", 0, x.leastWithout(0));
            checks.due("remove(0)", true, x.remove(0));
            checks.due("no job is left", 0, x.least());
            for (int m = 0; m < machines; m++) {
                checks.due("no job, machine " + m + " doubled", 0, x.leastDoubled(m));
                checks.due("no job, machine " + m + " idle", 0, x.leastIdle(m));
                checks.due("no job for machine " + m, 0, x.mostJobs(m));
            }
        }
    }

    // "of the plans with the least total, the one whose machines, in the order of the job numbers,
    // are least in the dictionary order"

    private static void firstPlanIs(String what, FlowTimeDesk x, int... machines) {
        for (int j = 0; j < machines.length; j++) {
            checks.due(what + ": machineOf(" + j + ")", machines[j], x.machineOf(j));
        }
    }

    private static void dictionaryOrder() {
        firstPlanIs("one job, equal times", checks.desk(3, 4, 4, 4), 0);
        firstPlanIs("one job, two equal times", checks.desk(3, 5, 4, 4), 1);
        firstPlanIs("one on each", checks.desk(3, 4, 4, 4, 4, 4, 4, 4, 4, 4), 0, 1, 2);
        // 0 0 ties with 0 1 and 1 0.
        firstPlanIs("both on 0", checks.desk(2, 2, 4, 0, 2, 4, 0), 0, 0);
        // 0 1 ties with 1 0 alone.
        firstPlanIs("the first job chooses", checks.desk(2, 3, 5, 0, 3, 5, 0), 0, 1);
        // 1 1 0 ties with 1 0 1 and 0 1 1.
        firstPlanIs("two on 1", checks.desk(2, 8, 4, 0, 8, 4, 0, 8, 4, 0), 0, 1, 1);
        firstPlanIs("five", checks.desk(3, 6, 6, 6, 6, 6, 6, 6, 6, 6, 6, 6, 6, 6, 6, 6), 0, 0, 1, 1, 2);
        FlowTimeDesk x = checks.desk(2, 4, 4, 0, 4, 4, 0, 4, 4, 0, 4, 4, 0);
        firstPlanIs("two on each", x, 0, 0, 1, 1);
        checks.due("remove(0)", true, x.remove(0));
        firstPlanIs("without job 0", x, FlowTimeDesk.NONE, 0, 0, 1);
    }

    private static void dictionaryOrderGoesByNumbers() {
        FlowTimeDesk x = checks.desk(2, 9, 9, 0, 3, 3, 0);
        checks.due("remove(0)", true, x.remove(0));
        checks.due("number 0 again", 0, x.add(3, 3, 0));
        firstPlanIs("the number counts, not the age", x, 0, 1);
    }

    private static void leastTotalGoesBeforeDictionaryOrder() {
        firstPlanIs("a little less on 2", checks.desk(3, 15, 15, 14), 2);
        // 1 0 has 3 + 3, 0 1 has 4 + 3.
        firstPlanIs("a little less crosswise", checks.desk(2, 4, 3, 0, 3, 3, 0), 1, 0);
    }

    // "every machine does its jobs in the order of their times there, equal ones in the order of
    // their numbers"

    private static void finishesAre(String what, FlowTimeDesk x, int... finishes) {
        for (int j = 0; j < finishes.length; j++) {
            checks.due(what + ": finishOf(" + j + ")", finishes[j], x.finishOf(j));
        }
    }

    private static void shorterJobsFirst() {
        FlowTimeDesk x = checks.desk(1, 15, 0, 0, 14, 0, 0, 1, 0, 0, 2, 0, 0, 13, 0, 0);
        finishesAre("one machine", x, 45, 30, 1, 3, 16);
        // Both on machine 1, where job 1 is the shorter, though on machine 0 job 0 is.
        finishesAre("their times there", checks.desk(2, 12, 3, 0, 15, 2, 0), 5, 2);
    }

    private static void equalTimesInTheOrderOfNumbers() {
        FlowTimeDesk x = checks.desk(1, 4, 0, 0, 4, 0, 0, 3, 0, 0, 4, 0, 0, 3, 0, 0);
        finishesAre("equal times", x, 10, 14, 3, 18, 6);
        checks.due("remove(0)", true, x.remove(0));
        checks.due("number 0 again", 0, x.add(4, 0, 0));
        finishesAre("the number counts, not the age", x, 10, 14, 3, 18, 6);
        checks.due("setTime(3, 0, 3)", true, x.setTime(3, 0, 3));
        finishesAre("equal since setTime", x, 13, 17, 3, 6, 9);
    }

    // "No jobs. machines: clamped to 1 .. 3."

    private static void newObjectHasNoJobs() {
        for (int machines = 0; machines <= 4; machines++) {
            FlowTimeDesk x = new FlowTimeDesk(machines);
            checks.due("jobs of a new object", 0, x.jobs());
            for (int j = 0; j < 5; j++) {
                checks.due("a new object has no job " + j, FlowTimeDesk.NONE, x.time(j, 0));
            }
        }
    }

    private static void clamped(int given, int machines) {
        FlowTimeDesk x = checks.desk(given, 5, 5, 5, 5, 5, 5, 5, 5, 5);
        for (int m = 0; m < 5; m++) {
            int want = m < machines ? 5 : FlowTimeDesk.NONE;
            checks.due(given + " machines: time(0, " + m + ")", want, x.time(0, m));
        }
        checks.alike(given + " machines", checks.desk(machines, 5, 5, 5, 5, 5, 5, 5, 5, 5), x);
    }

    private static void tooFewMachines() {
        for (int given : new int[] {0, -1, -2, -31, LOW + 1, LOW}) {
            clamped(given, 1);
        }
    }

    private static void tooManyMachines() {
        for (int given : new int[] {4, 5, 33, 257, HIGH - 1, HIGH}) {
            clamped(given, 3);
        }
    }

    private static void machinesWithinTheLimits() {
        int[] least = {5 + 10 + 15, 5 + 10 + 5, 5 + 5 + 5};
        for (int machines = 1; machines <= 3; machines++) {
            clamped(machines, machines);
            FlowTimeDesk x = checks.desk(machines, 5, 5, 5, 5, 5, 5, 5, 5, 5);
            checks.due("least on " + machines, least[machines - 1], x.least());
        }
    }

    // "those for machines that are not there do not matter and may be any ints"

    private static void anyIntsForMachinesThatAreNotThere() {
        int[] any = {LOW, -1, 0, 1, 15, 16, HIGH};
        for (int c : any) {
            String withC = "two machines, c is " + c;
            checks.alike(withC, checks.desk(2, 9, 0, 0, 0, 9, 0, 9, 8, 0), checks.desk(2, 9, 0, c, 0, 9, c, 9, 8, c));
            for (int b : any) {
                String withB = "one machine, b is " + b + ", c is " + c;
                checks.alike(withB, checks.desk(1, 9, 0, 0, 8, 0, 0), checks.desk(1, 9, b, c, 8, b, c));
            }
        }
    }

    // "otherwise the least number no job has, which it gets"

    private static void leastNumberNoJobHas() {
        for (int kept = 0; kept < 31; kept++) {
            FlowTimeDesk x = checks.desk(1, 9, 0, 0, 9, 0, 0, 9, 0, 0, 9, 0, 0, 9, 0, 0);
            for (int j = 4; j >= 0; j--) {
                if ((kept >> j & 1) == 0) {
                    checks.due("remove(" + j + ")", true, x.remove(j));
                }
            }
            int number = Integer.numberOfTrailingZeros(~kept);
            checks.due("add to the jobs " + kept, number, x.add(7, 0, 0));
            checks.due("jobs after add to " + kept, kept | 1 << number, x.jobs());
            checks.due("time after add to " + kept, 7, x.time(number, 0));
        }
    }

    // "The jobs: bit j for job j."

    private static void jobsWithNoJob() {
        FlowTimeDesk x = new FlowTimeDesk(3);
        checks.due("jobs, none yet", 0, x.jobs());
        checks.due("add", 0, x.add(1, 1, 1));
        checks.due("remove(0)", true, x.remove(0));
        checks.due("jobs, none any more", 0, x.jobs());
    }

    private static void jobsWithAllFive() {
        for (int j = 0; j < 5; j++) {
            FlowTimeDesk x = checks.desk(2, 1, 1, 0, 1, 1, 0, 1, 1, 0, 1, 1, 0, 1, 1, 0);
            checks.due("jobs, all five", 0b11111, x.jobs());
            checks.due("remove(" + j + ")", true, x.remove(j));
            checks.due("jobs, all but " + j, 0b11111 - (1 << j), x.jobs());
        }
    }

    // "The least total."

    private static void leastWithNoJob() {
        for (int machines = 1; machines <= 3; machines++) {
            checks.due("least, no job, " + machines + " machines", 0, new FlowTimeDesk(machines).least());
        }
    }

    private static void leastWithAllFive() {
        int[] ofOnes = {1 + 2 + 3 + 4 + 5, 1 + 2 + 3 + 1 + 2, 1 + 2 + 1 + 2 + 1};
        for (int machines = 1; machines <= 3; machines++) {
            for (int t = 1; t <= 15; t += 14) {
                FlowTimeDesk x = checks.desk(machines, t, t, t, t, t, t, t, t, t, t, t, t, t, t, t);
                checks.due("least, five of " + t + ", " + machines + " machines", t * ofOnes[machines - 1], x.least());
            }
        }
        FlowTimeDesk x = checks.desk(3, 1, 0, 0, 0, 2, 0, 0, 0, 3, 4, 0, 0, 0, 5, 0);
        checks.due("least, five different ones", 1 + 5 + 2 + 7 + 3, x.least());
    }
}
