import java.util.function.Supplier;
import java.util.function.ToIntBiFunction;
import java.util.function.ToIntFunction;

/**
 * A test of its own for each reason that the document names for BAD, FULL, false and NONE. Every
 * refused call is made on one of two like desks, which must answer alike afterwards.
 */
public final class RefusalsTest {
    private static final int LOW = Integer.MIN_VALUE;
    private static final int HIGH = Integer.MAX_VALUE;
    private static final int FALSE = 0;

    // The far ones are 0, 1 or 2 where a shift takes the last five bits alone.
    private static final int[] NUMBERS = {LOW, -32, -2, -1, 0, 1, 2, 3, 4, 5, 6, 7, 31, 32, 33, 34, 256, HIGH};
    private static final int[] NO_TIMES = {LOW, -16, -2, -1, 16, 17, 31, 256, HIGH};

    private static final Checks checks = new Checks();

    public static void main(String[] args) {
        addTimeOutOfLimits();
        addAllZero();
        addWhenFull();
        addBadBeforeFull();
        removeNoJob();
        setTimeNoJob();
        setTimeNoMachine();
        setTimeOutOfLimits();
        setTimeLastMachine();
        timeNoJob();
        timeNoMachine();
        machineOfNoJob();
        finishOfNoJob();
        leastWithNoJob();
        leastWithNoMachine();
        leastWithCantBeDone();
        leastWithoutNoJob();
        leastDoubledNoMachine();
        leastIdleNoMachine();
        leastIdleNoSuchPlan();
        mostJobsNoMachine();
        checks.close("RefusalsTest");
    }

    private static void refused(String what, int want, Supplier<FlowTimeDesk> desk, ToIntFunction<FlowTimeDesk> call) {
        FlowTimeDesk x = desk.get();
        checks.due(what, want, call.applyAsInt(x));
        checks.alike(what, desk.get(), x);
    }

    private static int told(boolean answer) {
        return answer ? 1 : 0;
    }

    // The desks on which calls are refused

    private static FlowTimeDesk five(int machines) {
        return checks.desk(machines, 3, 5, 2, 4, 1, 6, 7, 7, 7, 2, 9, 4, 5, 3, 3);
    }

    /** Five jobs, of which those that are not in the set have been removed. */
    private static FlowTimeDesk some(int machines, int set) {
        FlowTimeDesk x = five(machines);
        for (int j = 0; j < 5; j++) {
            if ((set >> j & 1) == 0) {
                checks.due("remove(" + j + ")", true, x.remove(j));
            }
        }
        return x;
    }

    private static void refusedWithoutJob(String method, int want, ToIntBiFunction<FlowTimeDesk, Integer> call) {
        for (int set : new int[] {0b11111, 0b10101, 0b01010, 0}) {
            for (int j : NUMBERS) {
                if (j < 0 || j > 4 || (set >> j & 1) == 0) {
                    String what = method + ", no job " + j + " in " + set;
                    refused(what, want, () -> some(3, set), x -> call.applyAsInt(x, j));
                }
            }
        }
        refused(method + ", no job yet", want, () -> new FlowTimeDesk(3), x -> call.applyAsInt(x, 0));
    }

    /** Also with jobs that are not there, where the call is refused for two reasons. */
    private static void refusedWithoutMachine(String method, int want, ToIntBiFunction<FlowTimeDesk, Integer> call) {
        for (int set : new int[] {0b11111, 0b01010, 0}) {
            for (int machines = 1; machines <= 3; machines++) {
                int there = machines;
                for (int m : NUMBERS) {
                    if (m < 0 || m >= machines) {
                        String what = method + ", no machine " + m + " of " + machines;
                        refused(what, want, () -> some(there, set), x -> call.applyAsInt(x, m));
                    }
                }
            }
        }
    }

    // Promise 2

    private static void addTimeOutOfLimits() {
        for (int t : NO_TIMES) {
            String what = "add, not a time: " + t;
            for (int machines = 1; machines <= 3; machines++) {
                int there = machines;
                refused(what, FlowTimeDesk.BAD, () -> checks.desk(there, 4, 5, 6), x -> x.add(t, 1, 1));
                if (there > 1) {
                    refused(what, FlowTimeDesk.BAD, () -> checks.desk(there, 4, 5, 6), x -> x.add(1, t, 1));
                }
                if (there > 2) {
                    refused(what, FlowTimeDesk.BAD, () -> checks.desk(there, 4, 5, 6), x -> x.add(1, 1, t));
                }
            }
        }
    }

    private static void addAllZero() {
        for (int any : new int[] {LOW, -1, 0, 1, 15, 16, HIGH}) {
            refused("add, all 0 of 1", FlowTimeDesk.BAD, () -> checks.desk(1, 4, 5, 6), x -> x.add(0, any, any));
            refused("add, all 0 of 2", FlowTimeDesk.BAD, () -> checks.desk(2, 4, 5, 6), x -> x.add(0, 0, any));
        }
        refused("add, all 0 of 3", FlowTimeDesk.BAD, () -> checks.desk(3, 4, 5, 6), x -> x.add(0, 0, 0));
        checks.due("add, not all 0: a", 0, checks.desk(3).add(1, 0, 0));
        checks.due("add, not all 0: b", 0, checks.desk(3).add(0, 1, 0));
        checks.due("add, not all 0: c", 0, checks.desk(3).add(0, 0, 1));
    }

    private static void addWhenFull() {
        for (int machines = 1; machines <= 3; machines++) {
            int there = machines;
            refused("add to five", FlowTimeDesk.FULL, () -> five(there), x -> x.add(1, 1, 1));
            refused("add to five", FlowTimeDesk.FULL, () -> five(there), x -> x.add(15, 15, 15));
        }
        FlowTimeDesk x = checks.desk(3, 1, 1, 1, 1, 1, 1, 1, 1, 1, 1, 1, 1);
        checks.due("add to four", 4, x.add(1, 1, 1));
        checks.due("add to five", FlowTimeDesk.FULL, x.add(1, 1, 1));
        checks.due("remove(2)", true, x.remove(2));
        checks.due("add to four again", 2, x.add(1, 1, 1));
    }

    // Promise 15

    private static void addBadBeforeFull() {
        for (int t : NO_TIMES) {
            refused("add to five, not a time: " + t, FlowTimeDesk.BAD, () -> five(3), x -> x.add(t, 1, 1));
            refused("add to five, not a time: " + t, FlowTimeDesk.BAD, () -> five(3), x -> x.add(1, t, 1));
            refused("add to five, not a time: " + t, FlowTimeDesk.BAD, () -> five(3), x -> x.add(1, 1, t));
            refused("add to five, no matter: " + t, FlowTimeDesk.FULL, () -> five(2), x -> x.add(1, 1, t));
            refused("add to five, no matter: " + t, FlowTimeDesk.FULL, () -> five(1), x -> x.add(1, t, t));
        }
        refused("add to five, all 0 of 3", FlowTimeDesk.BAD, () -> five(3), x -> x.add(0, 0, 0));
        refused("add to five, all 0 of 2", FlowTimeDesk.BAD, () -> five(2), x -> x.add(0, 0, 1));
        refused("add to five, all 0 of 1", FlowTimeDesk.BAD, () -> five(1), x -> x.add(0, 1, 1));
    }

    // Promise 3

    private static void removeNoJob() {
        refusedWithoutJob("remove", FALSE, (x, j) -> told(x.remove(j)));
    }

    // Promise 4

    private static void setTimeNoJob() {
        refusedWithoutJob("setTime to 9", FALSE, (x, j) -> told(x.setTime(j, 0, 9)));
        refusedWithoutJob("setTime to 0", FALSE, (x, j) -> told(x.setTime(j, 1, 0)));
    }

    private static void setTimeNoMachine() {
        refusedWithoutMachine("setTime to 9", FALSE, (x, m) -> told(x.setTime(0, m, 9)));
        refusedWithoutMachine("setTime to 0", FALSE, (x, m) -> told(x.setTime(4, m, 0)));
    }

    private static void setTimeOutOfLimits() {
        for (int t : NO_TIMES) {
            for (int m = 0; m < 3; m++) {
                int on = m;
                refused("setTime, not a time: " + t, FALSE, () -> five(3), x -> told(x.setTime(2, on, t)));
            }
        }
    }

    private static void setTimeLastMachine() {
        refused("setTime, the only machine", FALSE, () -> five(1), x -> told(x.setTime(0, 0, 0)));
        // On two machines the third time that add was given helps nothing.
        refused("setTime, last of two", FALSE, () -> checks.desk(2, 8, 0, 8), x -> told(x.setTime(0, 0, 0)));
        refused("setTime, last of two", FALSE, () -> checks.desk(2, 0, 8, 8), x -> told(x.setTime(0, 1, 0)));
        refused("setTime, last of three", FALSE, () -> checks.desk(3, 8, 0, 0), x -> told(x.setTime(0, 0, 0)));
        refused("setTime, last of three", FALSE, () -> checks.desk(3, 0, 8, 0), x -> told(x.setTime(0, 1, 0)));
        refused("setTime, last of three", FALSE, () -> checks.desk(3, 0, 0, 8), x -> told(x.setTime(0, 2, 0)));
        refused("setTime, what others can do helps nothing", FALSE,
            () -> checks.desk(3, 8, 8, 8, 0, 8, 0, 8, 8, 8), x -> told(x.setTime(1, 1, 0)));
        refused("setTime, last of a doubled machine", FALSE,
            () -> checks.desk(2, 8, 0, 0), x -> told(x.leastDoubled(0) != 8 || x.setTime(0, 0, 0)));
        FlowTimeDesk x = checks.desk(3, 8, 8, 0);
        checks.due("setTime to 0 where it is 0", true, x.setTime(0, 2, 0));
        checks.due("setTime to 0, one is left", true, x.setTime(0, 0, 0));
        checks.due("setTime to 1 on the last", true, x.setTime(0, 1, 1));
        checks.due("time on the last", 1, x.time(0, 1));
    }

    // Promise 6

    private static void timeNoJob() {
        refusedWithoutJob("time", FlowTimeDesk.NONE, (x, j) -> x.time(j, 1));
    }

    private static void timeNoMachine() {
        refusedWithoutMachine("time", FlowTimeDesk.NONE, (x, m) -> x.time(1, m));
    }

    // Promises 8 and 9

    private static void machineOfNoJob() {
        refusedWithoutJob("machineOf", FlowTimeDesk.NONE, FlowTimeDesk::machineOf);
    }

    private static void finishOfNoJob() {
        refusedWithoutJob("finishOf", FlowTimeDesk.NONE, FlowTimeDesk::finishOf);
    }

    // Promise 10

    private static void leastWithNoJob() {
        refusedWithoutJob("leastWith", FlowTimeDesk.NONE, (x, j) -> x.leastWith(j, 1));
    }

    private static void leastWithNoMachine() {
        refusedWithoutMachine("leastWith", FlowTimeDesk.NONE, (x, m) -> x.leastWith(4, m));
    }

    private static void leastWithCantBeDone() {
        for (int m = 0; m < 3; m++) {
            int on = m;
            Supplier<FlowTimeDesk> desk =
                () -> checks.desk(3, 6, 6, 6, on == 0 ? 0 : 6, on == 1 ? 0 : 6, on == 2 ? 0 : 6);
            refused("leastWith, can't be done on " + m, FlowTimeDesk.NONE, desk, x -> x.leastWith(1, on));
            checks.due("leastWith, the other job can on " + m, 6 + 6, desk.get().leastWith(0, on));
        }
        FlowTimeDesk x = checks.desk(2, 6, 6, 0);
        checks.due("leastWith before setTime", 6, x.leastWith(0, 1));
        checks.due("setTime(0, 1, 0)", true, x.setTime(0, 1, 0));
        checks.due("leastWith, can't be done since setTime", FlowTimeDesk.NONE, x.leastWith(0, 1));
    }

    // Promise 11

    private static void leastWithoutNoJob() {
        refusedWithoutJob("leastWithout", FlowTimeDesk.NONE, FlowTimeDesk::leastWithout);
    }

    // Promise 12

    private static void leastDoubledNoMachine() {
        refusedWithoutMachine("leastDoubled", FlowTimeDesk.NONE, FlowTimeDesk::leastDoubled);
        checks.due("leastDoubled, no job and no machine", FlowTimeDesk.NONE, checks.desk(2).leastDoubled(2));
    }

    // Promise 13

    private static void leastIdleNoMachine() {
        refusedWithoutMachine("leastIdle", FlowTimeDesk.NONE, FlowTimeDesk::leastIdle);
        checks.due("leastIdle, no job and no machine", FlowTimeDesk.NONE, checks.desk(2).leastIdle(2));
    }

    private static void leastIdleNoSuchPlan() {
        refused("leastIdle, the only machine", FlowTimeDesk.NONE, () -> five(1), x -> x.leastIdle(0));
        for (int m = 0; m < 3; m++) {
            int only = m;
            Supplier<FlowTimeDesk> desk = () -> checks.desk(3, 2, 2, 2,
                only == 0 ? 2 : 0, only == 1 ? 2 : 0, only == 2 ? 2 : 0, 2, 2, 2);
            refused("leastIdle, needed: " + m, FlowTimeDesk.NONE, desk, x -> x.leastIdle(only));
            checks.due("leastIdle, not needed", 2 + 4 + 2, desk.get().leastIdle((only + 1) % 3));
            FlowTimeDesk x = desk.get();
            checks.due("remove(1)", true, x.remove(1));
            checks.due("leastIdle, no longer needed", 2 + 2, x.leastIdle(only));
        }
    }

    // Promise 14

    private static void mostJobsNoMachine() {
        refusedWithoutMachine("mostJobs", FlowTimeDesk.NONE, FlowTimeDesk::mostJobs);
        checks.due("mostJobs, no job and no machine", FlowTimeDesk.NONE, checks.desk(2).mostJobs(2));
    }
}
