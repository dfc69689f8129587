/** Counts the answers that are not as due, and prints each. */
final class Checks {
    private int wrong = 0;
    private int asked = 0;

    void due(String what, long want, long got) {
        due(what, Long.toString(want), Long.toString(got));
    }

    void due(String what, boolean want, boolean got) {
        due(what, Boolean.toString(want), Boolean.toString(got));
    }

    private void due(String what, String want, String got) {
        asked++;
        if (!got.equals(want)) {
            wrong++;
            System.out.println(what + " answered " + got + ", due is " + want);
        }
    }

    /** A new desk with these jobs, three times each, numbered from 0 on. */
    FlowTimeDesk desk(int machines, int... times) {
        FlowTimeDesk x = new FlowTimeDesk(machines);
        for (int i = 0; i < times.length; i += 3) {
            due("add in a new desk", i / 3, x.add(times[i], times[i + 1], times[i + 2]));
        }
        return x;
    }

    /** Two desks answer alike, now and when jobs have been added to both until they are full. */
    void alike(String what, FlowTimeDesk want, FlowTimeDesk got) {
        due(what + ", then all questions", answers(want), answers(got));
        for (int t = 1; t <= 5; t++) {
            due(what + ", then add", want.add(t, t, t), got.add(t, t, t));
        }
        due(what + ", then add, then all questions", answers(want), answers(got));
    }

    private static String answers(FlowTimeDesk x) {
        StringBuilder all = new StringBuilder("jobs " + x.jobs() + " least " + x.least());
        for (int j = 0; j < 5; j++) {
            all.append(" job ").append(j).append(" on ").append(x.machineOf(j));
            all.append(" till ").append(x.finishOf(j)).append(" without ").append(x.leastWithout(j));
            for (int m = 0; m < 3; m++) {
                all.append(" takes ").append(x.time(j, m)).append(" with ").append(x.leastWith(j, m));
            }
        }
        for (int m = 0; m < 3; m++) {
            all.append(" machine ").append(m).append(" doubled ").append(x.leastDoubled(m));
            all.append(" idle ").append(x.leastIdle(m)).append(" most ").append(x.mostJobs(m));
        }
        return all.toString();
    }

    void close(String test) {
        System.out.println(test + ": " + asked + " answers, " + wrong + " not as due");
        if (wrong != 0 || asked == 0) {
            System.exit(1);
        }
    }
}
