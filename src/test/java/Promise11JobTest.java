/** job: what there is to tell of a job. */
final class Promise11JobTest {
    public static void main(String[] args) {
        allStates();
        stuckToo();
        ranks();
        wrongCalls();
        Check.end();
    }

    private static void dueJob(TubeDesk desk, int j, int... want) {
        String[] names = {"state", "place", "rank", "gone", "zones left", "arrived"};
        for (int what = 0; what < want.length; what++) {
            String call = names[what] + " of job " + j + " at " + desk.count(0);
            Check.due(call, want[what], desk.job(j, what));
        }
    }

    private static void allStates() {
        TubeDesk desk = Plans.row();
        desk.tick(7);
        desk.send(3, 10, 2);
        dueJob(desk, 0, Plans.WAITING, 3, 2, 0, 3, -1);
        desk.tick(3);
        dueJob(desk, 0, Plans.MOVING, 0, 2, 2, 3, -1);
        desk.close(1, true);
        desk.tick(2);
        dueJob(desk, 0, Plans.IN_BAY, 5, 2, 0, 2, -1);
        desk.close(1, false);
        desk.tick(2);
        dueJob(desk, 0, Plans.MOVING, 1, 2, 1, 2, -1);
        desk.close(2, true);
        desk.tick(20);
        dueJob(desk, 0, Plans.IN_BAY, 3, 3, 0, 1, -1);
        desk.close(2, false);
        desk.tick(4);
        dueJob(desk, 0, Plans.MOVING, 2, 3, 3, 1, -1);
        desk.tick(1);
        dueJob(desk, 0, Plans.ARRIVED, 10, 3, 0, 0, 39);
        desk.tick(1);
        desk.take(10);
        dueJob(desk, 0, Plans.TAKEN, 10, 3, 0, 0, 39);
    }

    private static void stuckToo() {
        TubeDesk desk = Plans.row();
        desk.stick(1, 0, true);
        desk.send(5, 11, 1);
        desk.tick(3);
        dueJob(desk, 0, Plans.STUCK, 1, 1, 1, 2, -1);
    }

    private static void ranks() {
        TubeDesk desk = Plans.star();
        desk.tick(5);
        for (int priority = 0; priority <= 3; priority++) {
            desk.send(priority, (priority + 1) % 4, priority);
        }
        int[] steps = {19, 1, 19, 1, 60};
        int[] grown = {0, 1, 1, 2, 5};
        for (int i = 0; i < steps.length; i++) {
            desk.tick(steps[i]);
            for (int j = 0; j < 4; j++) {
                Check.due("rank of " + j, j + grown[i], desk.job(j, 2));
            }
        }
    }

    private static void wrongCalls() {
        TubeDesk desk = Plans.star();
        Check.noneSuch("job(0, 0) of none", () -> desk.job(0, 0));
        desk.send(0, 1, 0);
        Check.noneSuch("job(-1, 0)", () -> desk.job(-1, 0));
        Check.noneSuch("job(1, 0)", () -> desk.job(1, 0));
        Check.noneSuch("job(1, 6), neither is there", () -> desk.job(1, 6));
        Check.noneSuch("job of the highest", () -> desk.job(Integer.MAX_VALUE, 0));
        Check.badArgument("job(0, -1)", () -> desk.job(0, -1));
        Check.badArgument("job(0, 6)", () -> desk.job(0, 6));
        Check.badArgument("job(0, lowest)", () -> desk.job(0, Integer.MIN_VALUE));
    }
}
