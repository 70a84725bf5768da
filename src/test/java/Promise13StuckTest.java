/** stuck: the node of a stuck job, and the one before it. */
final class Promise13StuckTest {
    public static void main(String[] args) {
        upAndDown();
        noOthersThanStuckOnes();
        wrongCalls();
        Check.end();
    }

    /** The path from station 0 to station 1 is 4 - 2 - 1 - 0 - 7 - 3. */
    private static TubeDesk bough() {
        TubeDesk desk = new TubeDesk();
        desk.tube(3, 1, 0, 1);
        desk.tube(3, 2, 1, 1);
        desk.tube(3, 4, 2, 1);
        desk.tube(3, 5, 2, 1);
        desk.tube(3, 7, 0, 1);
        desk.tube(3, 3, 7, 1);
        desk.tube(3, 8, 7, 1);
        desk.station(0, 3, 4);
        desk.station(1, 3, 3);
        desk.station(2, 3, 5);
        Check.due("seal()", 0, desk.seal());
        return desk;
    }

    private static void dueStuck(TubeDesk desk, int before, int node) {
        desk.stick(3, node, true);
        desk.tick(50);
        Check.due("stuck(0, 1)", node, desk.stuck(0, 1));
        Check.due("stuck(0, 0)", before, desk.stuck(0, 0));
        desk.stick(3, node, false);
    }

    private static void upAndDown() {
        TubeDesk desk = bough();
        desk.send(0, 1, 0);
        dueStuck(desk, 4, 2);
        dueStuck(desk, 2, 1);
        dueStuck(desk, 1, 0);
        dueStuck(desk, 0, 7);
        dueStuck(desk, 7, 3);
        TubeDesk below = bough();
        below.send(0, 2, 0);
        below.stick(3, 1, true);
        below.stick(3, 4, true);
        dueStuck(below, 4, 2);
        dueStuck(below, 2, 5);
        below.tick(1);
        Check.due("job(0, 0)", Plans.ARRIVED, below.job(0, 0));
    }

    private static void noOthersThanStuckOnes() {
        TubeDesk desk = bough();
        desk.send(0, 1, 0);
        desk.stick(3, 1, true);
        Check.noneSuch("waiting", () -> desk.stuck(0, 1));
        desk.tick(2);
        Check.noneSuch("moving", () -> desk.stuck(0, 1));
        desk.tick(50);
        Check.due("stuck", 1, desk.stuck(0, 1));
        desk.stick(3, 1, false);
        Check.due("stuck until the tick", 1, desk.stuck(0, 1));
        desk.tick(1);
        Check.noneSuch("moving again", () -> desk.stuck(0, 0));
        desk.tick(50);
        Check.noneSuch("arrived", () -> desk.stuck(0, 0));
        desk.take(1);
        Check.noneSuch("taken", () -> desk.stuck(0, 0));
    }

    private static void wrongCalls() {
        TubeDesk desk = bough();
        Check.noneSuch("of none", () -> desk.stuck(0, 0));
        desk.send(0, 1, 0);
        Check.noneSuch("stuck(-1, 0)", () -> desk.stuck(-1, 0));
        Check.noneSuch("stuck(1, 0)", () -> desk.stuck(1, 0));
        Check.noneSuch("not stuck, no such part", () -> desk.stuck(0, 2));
        Check.noneSuch("no such job or part", () -> desk.stuck(1, 2));
        desk.stick(3, 2, true);
        desk.tick(9);
        Check.badArgument("part 2", () -> desk.stuck(0, 2));
        Check.badArgument("part -1", () -> desk.stuck(0, -1));
    }
}
