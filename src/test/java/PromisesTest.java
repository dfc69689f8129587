/** Goes through the document promise by promise: ordinary inputs, named edges and wrong inputs. */
public final class PromisesTest {
    private static final int LOW = Integer.MIN_VALUE;
    private static final int HIGH = Integer.MAX_VALUE;
    private static final int[] NO_JOBS_EVER = {LOW, -32, -1, 5, 6, 32, 33, HIGH};
    private static final int[] NO_MACHINES_EVER = {LOW, -32, -1, 3, 4, 32, HIGH};
    private static final int[] NO_TIMES = {LOW, -16, -1, 16, 17, 256, HIGH};

    private static final Checks checks = new Checks();

    public static void main(String[] args) {
        newObject();
        add();
        addTakesTheLeastFreeNumber();
        addLooksOnlyAtMachinesThatAreThere();
        remove();
        setTime();
        setTimeRefuses();
        jobs();
        time();
        least();
        machineOf();
        finishOf();
        leastWith();
        leastWithout();
        leastDoubled();
        leastIdle();
        mostJobs();
        badBeforeFull();
        objectsAreApart();
        questionsChangeNothing();
        checks.close("PromisesTest");
    }

    private static FlowTimeDesk desk(int machines, int... times) {
        return checks.desk(machines, times);
    }

    /** How many machines a desk has, told by time() alone. */
    private static int machinesOf(FlowTimeDesk x) {
        checks.due("add(1, 1, 1) to count machines", 0, x.add(1, 1, 1));
        int count = 0;
        for (int m = 0; m < 6; m++) {
            count += x.time(0, m) != FlowTimeDesk.NONE ? 1 : 0;
        }
        return count;
    }

    // Promise 1

    private static void newObject() {
        int[] given = {LOW, -1, 0, 1, 2, 3, 4, 5, 35, HIGH};
        int[] there = {1, 1, 1, 1, 2, 3, 3, 3, 3, 3};
        for (int i = 0; i < given.length; i++) {
            FlowTimeDesk x = new FlowTimeDesk(given[i]);
            checks.due("1: jobs of a new object", 0, x.jobs());
            checks.due("1: least of a new object", 0, x.least());
            for (int j = 0; j < 5; j++) {
                checks.due("1: time in a new object", FlowTimeDesk.NONE, x.time(j, 0));
            }
            checks.due("1: machines for " + given[i], there[i], machinesOf(x));
        }
    }

    // Promise 2

    private static void add() {
        FlowTimeDesk x = desk(3, 0, 15, 1, 15, 0, 0, 0, 0, 15);
        checks.due("2: jobs", 0b111, x.jobs());
        checks.due("2: time(0, 0)", 0, x.time(0, 0));
        checks.due("2: time(0, 1)", 15, x.time(0, 1));
        checks.due("2: time(0, 2)", 1, x.time(0, 2));
        checks.due("2: time(2, 2)", 15, x.time(2, 2));
        checks.due("2: all 0", FlowTimeDesk.BAD, x.add(0, 0, 0));
        for (int t : NO_TIMES) {
            checks.due("2: a is " + t, FlowTimeDesk.BAD, x.add(t, 1, 1));
            checks.due("2: b is " + t, FlowTimeDesk.BAD, x.add(1, t, 1));
            checks.due("2: c is " + t, FlowTimeDesk.BAD, x.add(1, 1, t));
        }
        checks.due("2: BAD adds nothing", 0b111, x.jobs());
        checks.due("2: fourth", 3, x.add(1, 2, 3));
        checks.due("2: fifth", 4, x.add(4, 5, 6));
        checks.due("2: sixth", FlowTimeDesk.FULL, x.add(7, 8, 9));
        checks.due("2: FULL adds nothing", 0b11111, x.jobs());
        checks.due("2: FULL leaves the times", 4, x.time(4, 0));
    }

    private static void addTakesTheLeastFreeNumber() {
        FlowTimeDesk x = desk(3, 1, 1, 1, 2, 2, 2, 3, 3, 3, 4, 4, 4, 5, 5, 5);
        checks.due("2: remove(3)", true, x.remove(3));
        checks.due("2: remove(1)", true, x.remove(1));
        checks.due("2: least free is 1", 1, x.add(6, 0, 7));
        checks.due("2: least free is 3", 3, x.add(8, 9, 0));
        checks.due("2: no free", FlowTimeDesk.FULL, x.add(1, 1, 1));
        checks.due("2: time(1, 0)", 6, x.time(1, 0));
        checks.due("2: an old time is gone", 0, x.time(1, 1));
        checks.due("2: time(3, 1)", 9, x.time(3, 1));
        checks.due("2: a neighbour keeps its time", 3, x.time(2, 1));
    }

    private static void addLooksOnlyAtMachinesThatAreThere() {
        FlowTimeDesk one = new FlowTimeDesk(1);
        checks.due("2: b and c do not matter", 0, one.add(5, LOW, HIGH));
        checks.due("2: 0 on the only machine", FlowTimeDesk.BAD, one.add(0, 5, 5));
        checks.due("2: least on one machine", 5, one.least());
        checks.due("2: b and c can't do it", FlowTimeDesk.NONE, one.leastIdle(0));
        FlowTimeDesk two = new FlowTimeDesk(2);
        checks.due("2: c does not matter", 0, two.add(0, 5, 16));
        checks.due("2: 0 on both machines", FlowTimeDesk.BAD, two.add(0, 0, 5));
        checks.due("2: b matters", FlowTimeDesk.BAD, two.add(1, 16, 0));
        checks.due("2: a small c does not help", 1, two.add(9, 9, 1));
        checks.due("2: least on two machines", 14, two.least());
    }

    // Promise 3

    private static void remove() {
        FlowTimeDesk x = desk(2, 3, 4, 0, 5, 6, 0, 7, 8, 0);
        for (int j : NO_JOBS_EVER) {
            checks.due("3: remove(" + j + ")", false, x.remove(j));
        }
        checks.due("3: remove(3)", false, x.remove(3));
        checks.due("3: remove(4)", false, x.remove(4));
        checks.due("3: nothing changed", 0b111, x.jobs());
        checks.due("3: remove(1)", true, x.remove(1));
        checks.due("3: jobs", 0b101, x.jobs());
        checks.due("3: remove(1) again", false, x.remove(1));
        checks.due("3: time of the removed", FlowTimeDesk.NONE, x.time(1, 0));
        checks.due("3: least without the removed", 11, x.least());
        checks.due("3: others keep their times", 7, x.time(2, 0));
        checks.due("3: remove(0)", true, x.remove(0));
        checks.due("3: remove(2)", true, x.remove(2));
        checks.due("3: none is left", 0, x.jobs());
        checks.due("3: least of none", 0, x.least());
    }

    // Promise 4

    private static void setTime() {
        FlowTimeDesk x = desk(3, 3, 4, 5, 6, 7, 8);
        checks.due("4: setTime(0, 1, 15)", true, x.setTime(0, 1, 15));
        checks.due("4: time(0, 1)", 15, x.time(0, 1));
        checks.due("4: time(0, 0) stays", 3, x.time(0, 0));
        checks.due("4: time(1, 1) stays", 7, x.time(1, 1));
        checks.due("4: setTime(0, 0, 0)", true, x.setTime(0, 0, 0));
        checks.due("4: setTime(0, 2, 0)", true, x.setTime(0, 2, 0));
        checks.due("4: the last machine", false, x.setTime(0, 1, 0));
        checks.due("4: time(0, 1) stays", 15, x.time(0, 1));
        checks.due("4: 0 again where it is 0", true, x.setTime(0, 0, 0));
        checks.due("4: setTime(0, 1, 1)", true, x.setTime(0, 1, 1));
        checks.due("4: least", 7, x.least());
        checks.due("4: setTime(0, 2, 2)", true, x.setTime(0, 2, 2));
        checks.due("4: now the other may go", true, x.setTime(0, 1, 0));
        checks.due("4: time(0, 2)", 2, x.time(0, 2));
        checks.due("4: time(0, 1)", 0, x.time(0, 1));
    }

    private static void setTimeRefuses() {
        FlowTimeDesk x = desk(2, 3, 4, 9, 6, 7, 9);
        for (int t : NO_TIMES) {
            checks.due("4: t is " + t, false, x.setTime(0, 0, t));
        }
        for (int j : NO_JOBS_EVER) {
            checks.due("4: j is " + j, false, x.setTime(j, 0, 1));
        }
        for (int m : NO_MACHINES_EVER) {
            checks.due("4: m is " + m, false, x.setTime(0, m, 1));
        }
        checks.due("4: no machine 2", false, x.setTime(0, 2, 1));
        checks.due("4: no job 2", false, x.setTime(2, 0, 1));
        checks.due("4: time(0, 0)", 3, x.time(0, 0));
        checks.due("4: time(0, 1)", 4, x.time(0, 1));
        checks.due("4: time(1, 0)", 6, x.time(1, 0));
        checks.due("4: time(1, 1)", 7, x.time(1, 1));
        checks.due("4: jobs", 0b11, x.jobs());
        checks.due("4: setTime(0, 0, 0)", true, x.setTime(0, 0, 0));
        checks.due("4: the third time given to add is no machine", false, x.setTime(0, 1, 0));
        FlowTimeDesk one = desk(1, 3, 4, 5);
        checks.due("4: the only machine", false, one.setTime(0, 0, 0));
        checks.due("4: time stays", 3, one.time(0, 0));
    }

    // Promise 5

    private static void jobs() {
        FlowTimeDesk x = new FlowTimeDesk(3);
        for (int j = 0; j < 5; j++) {
            checks.due("5: jobs", (1 << j) - 1, x.jobs());
            checks.due("5: add", j, x.add(1, 2, 3));
        }
        checks.due("5: five jobs", 31, x.jobs());
        checks.due("5: remove(0)", true, x.remove(0));
        checks.due("5: without job 0", 30, x.jobs());
        checks.due("5: remove(4)", true, x.remove(4));
        checks.due("5: without job 4", 14, x.jobs());
    }

    // Promise 6

    private static void time() {
        FlowTimeDesk x = desk(2, 3, 0, 9, 15, 1, 9);
        checks.due("6: time(0, 0)", 3, x.time(0, 0));
        checks.due("6: can't be done", 0, x.time(0, 1));
        checks.due("6: time(1, 0)", 15, x.time(1, 0));
        checks.due("6: time(1, 1)", 1, x.time(1, 1));
        checks.due("6: no machine 2", FlowTimeDesk.NONE, x.time(0, 2));
        checks.due("6: no job 2", FlowTimeDesk.NONE, x.time(2, 0));
        for (int j : NO_JOBS_EVER) {
            checks.due("6: j is " + j, FlowTimeDesk.NONE, x.time(j, 0));
        }
        for (int m : NO_MACHINES_EVER) {
            checks.due("6: m is " + m, FlowTimeDesk.NONE, x.time(0, m));
        }
        x.leastDoubled(0);
        checks.due("6: a doubled machine is not there", FlowTimeDesk.NONE, x.time(0, 3));
    }

    // Promise 7

    private static void least() {
        checks.due("7: no jobs", 0, desk(3).least());
        checks.due("7: one job, its best machine", 4, desk(3, 9, 4, 8).least());
        checks.due("7: short jobs first", 1 + 3 + 6, desk(1, 3, 0, 0, 1, 0, 0, 2, 0, 0).least());
        checks.due("7: a slow machine may help", 5 + 7, desk(2, 5, 7, 0, 5, 7, 0).least());
        checks.due("7: too slow to help", 5 + 10, desk(2, 5, 11, 0, 5, 11, 0).least());
        checks.due("7: the greatest", 15 + 30 + 45 + 60 + 75,
            desk(3, 15, 0, 0, 15, 0, 0, 15, 0, 0, 15, 0, 0, 15, 0, 0).least());
        checks.due("7: 0 is not a time that is taken", 15, desk(3, 0, 15, 0).least());
    }

    // Promise 8

    private static void machineOf() {
        FlowTimeDesk x = desk(2, 5, 5, 0, 5, 5, 0);
        checks.due("8: first in dictionary order", 0, x.machineOf(0));
        checks.due("8: the other machine", 1, x.machineOf(1));
        checks.due("8: no job 2", FlowTimeDesk.NONE, x.machineOf(2));
        for (int j : NO_JOBS_EVER) {
            checks.due("8: j is " + j, FlowTimeDesk.NONE, x.machineOf(j));
        }
        FlowTimeDesk gap = desk(3, 1, 1, 1, 4, 4, 4, 0, 4, 0);
        checks.due("8: remove(0)", true, gap.remove(0));
        checks.due("8: no job 0 any more", FlowTimeDesk.NONE, gap.machineOf(0));
        checks.due("8: job 1 where job 2 is not", 0, gap.machineOf(1));
        checks.due("8: job 2 on its only machine", 1, gap.machineOf(2));
        FlowTimeDesk tie = desk(2, 2, 4, 0, 2, 4, 0);
        checks.due("8: both on 0 is a tie and first", 0, tie.machineOf(0));
        checks.due("8: both on 0 is a tie and first", 0, tie.machineOf(1));
        FlowTimeDesk last = desk(3, 3, 3, 2);
        checks.due("8: the least total goes before the order", 2, last.machineOf(0));
        FlowTimeDesk four = desk(3, 6, 6, 6, 6, 6, 6, 6, 6, 6, 6, 6, 6);
        int[] machines = {0, 0, 1, 2};
        for (int j = 0; j < 4; j++) {
            checks.due("8: machineOf(" + j + ") of four", machines[j], four.machineOf(j));
        }
    }

    // Promise 9

    private static void finishOf() {
        FlowTimeDesk x = desk(1, 4, 0, 0, 2, 0, 0, 4, 0, 0, 2, 0, 0);
        int[] finish = {8, 2, 12, 4};
        for (int j = 0; j < 4; j++) {
            checks.due("9: finishOf(" + j + ")", finish[j], x.finishOf(j));
        }
        checks.due("9: no job 4", FlowTimeDesk.NONE, x.finishOf(4));
        for (int j : NO_JOBS_EVER) {
            checks.due("9: j is " + j, FlowTimeDesk.NONE, x.finishOf(j));
        }
        checks.due("9: remove(1)", true, x.remove(1));
        checks.due("9: no job 1 any more", FlowTimeDesk.NONE, x.finishOf(1));
        checks.due("9: the removed one takes no time", 6, x.finishOf(0));
        FlowTimeDesk two = desk(2, 9, 3, 0, 5, 0, 0, 1, 6, 0);
        checks.due("9: the time on its own machine", 3, two.finishOf(0));
        checks.due("9: behind the shorter one there", 6, two.finishOf(1));
        checks.due("9: the shorter one", 1, two.finishOf(2));
    }

    // Promise 10

    private static void leastWith() {
        FlowTimeDesk x = desk(2, 3, 8, 0, 4, 0, 0, 9, 9, 0);
        checks.due("10: least", 3 + 7 + 9, x.least());
        checks.due("10: as in the least", 19, x.leastWith(0, 0));
        checks.due("10: on the worse machine", 4 + 8 + 13, x.leastWith(0, 1));
        checks.due("10: the others are planned anew", 4 + 13 + 8, x.leastWith(2, 0));
        checks.due("10: can't be done there", FlowTimeDesk.NONE, x.leastWith(1, 1));
        checks.due("10: no machine 2", FlowTimeDesk.NONE, x.leastWith(0, 2));
        checks.due("10: no job 3", FlowTimeDesk.NONE, x.leastWith(3, 0));
        for (int j : NO_JOBS_EVER) {
            checks.due("10: j is " + j, FlowTimeDesk.NONE, x.leastWith(j, 0));
        }
        for (int m : NO_MACHINES_EVER) {
            checks.due("10: m is " + m, FlowTimeDesk.NONE, x.leastWith(0, m));
        }
        x.leastDoubled(0);
        checks.due("10: a doubled machine is not there", FlowTimeDesk.NONE, x.leastWith(0, 3));
    }

    // Promise 11

    private static void leastWithout() {
        FlowTimeDesk x = desk(2, 3, 8, 0, 4, 0, 0, 9, 9, 0);
        checks.due("11: without 0", 4 + 9, x.leastWithout(0));
        checks.due("11: without 1", 3 + 9, x.leastWithout(1));
        checks.due("11: without 2", 3 + 7, x.leastWithout(2));
        checks.due("11: no job 3", FlowTimeDesk.NONE, x.leastWithout(3));
        for (int j : NO_JOBS_EVER) {
            checks.due("11: j is " + j, FlowTimeDesk.NONE, x.leastWithout(j));
        }
        checks.due("11: it is still there", 0b111, x.jobs());
        checks.due("11: the only job", 0, desk(3, 7, 7, 7).leastWithout(0));
        checks.due("11: no jobs", FlowTimeDesk.NONE, desk(3).leastWithout(0));
    }

    // Promise 12

    private static void leastDoubled() {
        FlowTimeDesk x = desk(3, 3, 0, 15, 4, 0, 15, 5, 0, 15);
        checks.due("12: least", 3 + 7 + 12, x.least());
        checks.due("12: machine 0 twice", 3 + 4 + 8, x.leastDoubled(0));
        checks.due("12: one that can do nothing", 22, x.leastDoubled(1));
        checks.due("12: a slow one", 22, x.leastDoubled(2));
        checks.due("12: machine 0 again", 15, x.leastDoubled(0));
        checks.due("12: the machine is gone again", 22, x.least());
        checks.due("12: a new time counts", true, x.setTime(2, 0, 1));
        checks.due("12: with the new time", 1 + 3 + 5, x.leastDoubled(0));
        for (int m : NO_MACHINES_EVER) {
            checks.due("12: m is " + m, FlowTimeDesk.NONE, x.leastDoubled(m));
        }
        FlowTimeDesk one = desk(1, 6, 1, 1, 6, 1, 1);
        checks.due("12: one machine twice", 12, one.leastDoubled(0));
        checks.due("12: no machine 1", FlowTimeDesk.NONE, one.leastDoubled(1));
        checks.due("12: no machine 2", FlowTimeDesk.NONE, one.leastDoubled(2));
        checks.due("12: no jobs", 0, desk(2).leastDoubled(1));
        FlowTimeDesk gone = desk(2, 5, 5, 0, 5, 5, 0);
        checks.due("12: remove(0)", true, gone.remove(0));
        checks.due("12: the removed one takes no time", 5, gone.leastDoubled(0));
    }

    // Promise 13

    private static void leastIdle() {
        FlowTimeDesk x = desk(3, 3, 8, 0, 4, 5, 0, 9, 2, 0);
        checks.due("13: least", 3 + 2 + 7, x.least());
        checks.due("13: without machine 0", 2 + 7 + 15, x.leastIdle(0));
        checks.due("13: without machine 1", 3 + 7 + 16, x.leastIdle(1));
        checks.due("13: without one that does nothing", 12, x.leastIdle(2));
        checks.due("13: setTime(1, 1, 0)", true, x.setTime(1, 1, 0));
        checks.due("13: job 1 has no other machine", FlowTimeDesk.NONE, x.leastIdle(0));
        for (int m : NO_MACHINES_EVER) {
            checks.due("13: m is " + m, FlowTimeDesk.NONE, x.leastIdle(m));
        }
        checks.due("13: the only machine", FlowTimeDesk.NONE, desk(1, 3, 3, 3).leastIdle(0));
        checks.due("13: no jobs", 0, desk(1).leastIdle(0));
        checks.due("13: no jobs, no machine", FlowTimeDesk.NONE, desk(1).leastIdle(1));
        FlowTimeDesk gone = desk(2, 5, 0, 0, 5, 5, 0);
        checks.due("13: remove(0)", true, gone.remove(0));
        checks.due("13: the removed one needs no machine", 5, gone.leastIdle(0));
    }

    // Promise 14

    private static void mostJobs() {
        FlowTimeDesk tie = desk(2, 2, 4, 0, 2, 4, 0);
        checks.due("14: both may be on 0", 2, tie.mostJobs(0));
        checks.due("14: one may be on 1", 1, tie.mostJobs(1));
        FlowTimeDesk x = desk(3, 3, 3, 0, 3, 3, 0, 3, 3, 0);
        checks.due("14: two of three", 2, x.mostJobs(0));
        checks.due("14: not only in the first plan", 2, x.mostJobs(1));
        checks.due("14: a machine that can do nothing", 0, x.mostJobs(2));
        for (int m : NO_MACHINES_EVER) {
            checks.due("14: m is " + m, FlowTimeDesk.NONE, x.mostJobs(m));
        }
        checks.due("14: remove(1)", true, x.remove(1));
        checks.due("14: one each", 1, x.mostJobs(0));
        checks.due("14: only in plans with the least total", 0, desk(2, 1, 15, 0).mostJobs(1));
        FlowTimeDesk one = desk(1, 1, 0, 0, 1, 0, 0, 1, 0, 0, 1, 0, 0, 1, 0, 0);
        checks.due("14: all five", 5, one.mostJobs(0));
        checks.due("14: no machine 1", FlowTimeDesk.NONE, one.mostJobs(1));
        checks.due("14: no jobs", 0, desk(3).mostJobs(2));
    }

    // Promise 15

    private static void badBeforeFull() {
        FlowTimeDesk x = desk(3, 1, 1, 1, 1, 1, 1, 1, 1, 1, 1, 1, 1, 1, 1, 1);
        checks.due("15: all 0", FlowTimeDesk.BAD, x.add(0, 0, 0));
        checks.due("15: a is 16", FlowTimeDesk.BAD, x.add(16, 1, 1));
        checks.due("15: b is -1", FlowTimeDesk.BAD, x.add(1, -1, 1));
        checks.due("15: c is 16", FlowTimeDesk.BAD, x.add(1, 1, 16));
        checks.due("15: good times", FlowTimeDesk.FULL, x.add(15, 0, 0));
        FlowTimeDesk one = desk(1, 1, 0, 0, 1, 0, 0, 1, 0, 0, 1, 0, 0, 1, 0, 0);
        checks.due("15: 0 on the only machine", FlowTimeDesk.BAD, one.add(0, 1, 1));
        checks.due("15: b and c do not matter", FlowTimeDesk.FULL, one.add(1, -1, 16));
    }

    // What holds for all of them

    private static void objectsAreApart() {
        FlowTimeDesk x = desk(3, 1, 2, 3);
        FlowTimeDesk y = desk(2, 7, 8, 9, 4, 5, 6);
        checks.due("x.jobs()", 1, x.jobs());
        checks.due("y.jobs()", 3, y.jobs());
        checks.due("x.time(0, 0)", 1, x.time(0, 0));
        checks.due("y.time(0, 0)", 7, y.time(0, 0));
    }

    private static void questionsChangeNothing() {
        FlowTimeDesk x = desk(3, 3, 5, 2, 4, 1, 6, 7, 7, 7, 2, 9, 4, 5, 3, 3);
        for (int turn = 0; turn < 2; turn++) {
            for (int i = 0; i < 5; i++) {
                x.leastDoubled(i);
                x.leastIdle(i);
                x.mostJobs(i);
                x.leastWithout(i);
                x.leastWith(i, i);
                x.finishOf(i);
            }
            checks.due("least() after questions", 18, x.least());
            checks.due("jobs() after questions", 31, x.jobs());
            checks.due("machineOf(0) after questions", 2, x.machineOf(0));
            checks.due("time(3, 1) after questions", 9, x.time(3, 1));
        }
    }
}
