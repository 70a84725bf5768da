/** stick: a node sticks, or no more. */
final class Promise09StickTest {
    public static void main(String[] args) {
        sticksBetween();
        sticksAtTheGoal();
        doesNotStickWhereItBegan();
        sticksOnlyWhenItComes();
        sticksAtOneNodeBehindAnother();
        holdsItsZone();
        sticksBeforeABay();
        wrongCalls();
        Check.end();
    }

    /** Stations 0 and 1 at the ends of 3 - 2 - 1 - 0 - 4; the tubes take 1, 2, 3 and 1 ticks. */
    private static TubeDesk stem() {
        TubeDesk desk = new TubeDesk();
        desk.tube(0, 1, 0, 3);
        desk.tube(0, 2, 1, 2);
        desk.tube(0, 3, 2, 1);
        desk.tube(0, 4, 0, 1);
        desk.station(0, 0, 3);
        desk.station(1, 0, 4);
        Check.due("seal()", 0, desk.seal());
        Check.due("time(0, 1)", 13, desk.time(0, 1));
        return desk;
    }

    private static void sticksBetween() {
        int[] nodes = {2, 1, 0, 4};
        int[] comes = {1, 5, 10, 13};
        for (int i = 0; i < nodes.length; i++) {
            TubeDesk desk = stem();
            desk.stick(0, nodes[i], true);
            desk.send(0, 1, 0);
            desk.tick(comes[i]);
            Check.due("before node " + nodes[i], Plans.MOVING, desk.job(0, 0));
            desk.tick(1);
            Check.due("at node " + nodes[i], Plans.STUCK, desk.job(0, 0));
            Check.due("gone", comes[i], desk.job(0, 3));
            desk.tick(100);
            Check.due("stuck yet", Plans.STUCK, desk.job(0, 0));
            Check.due("no further", comes[i], desk.job(0, 3));
            desk.stick(0, nodes[i], false);
            Check.due("stuck until the tick", Plans.STUCK, desk.job(0, 0));
            desk.tick(1);
            if (nodes[i] != 4) {
                Check.due("moves again", Plans.MOVING, desk.job(0, 0));
                Check.due("no further in this tick", comes[i], desk.job(0, 3));
                desk.tick(13 - comes[i]);
            }
            Check.due("arrived", 1 + comes[i] + 100 + 1 + 13 - comes[i], desk.job(0, 5));
        }
    }

    private static void sticksAtTheGoal() {
        TubeDesk desk = Plans.star();
        desk.stick(0, 2, true);
        desk.send(0, 1, 0);
        desk.send(2, 0, 0);
        desk.tick(6);
        Check.due("all its time is gone", 5, desk.job(0, 3));
        Check.due("but it is stuck", Plans.STUCK, desk.job(0, 0));
        Check.due("and has not arrived", -1, desk.job(0, 5));
        Check.noneSuch("take(1)", () -> desk.take(1));
        desk.stick(0, 2, false);
        Check.due("the zone is free in the same tick", 1, desk.tick(1));
        Check.due("arrived", 7, desk.job(0, 5));
        Check.due("take(1)", 0, desk.take(1));
    }

    private static void doesNotStickWhereItBegan() {
        TubeDesk desk = Plans.star();
        desk.stick(0, 1, true);
        desk.send(0, 1, 0);
        desk.tick(6);
        Check.due("job(0, 0)", Plans.ARRIVED, desk.job(0, 0));
    }

    private static void sticksOnlyWhenItComes() {
        TubeDesk desk = stem();
        desk.send(0, 1, 0);
        desk.tick(2);
        desk.stick(0, 2, true);
        desk.tick(1);
        Check.due("it has come to node 2 before", Plans.MOVING, desk.job(0, 0));
        desk.stick(0, 1, true);
        desk.stick(0, 1, false);
        desk.tick(11);
        Check.due("arrived", 14, desk.job(0, 5));
    }

    private static void sticksAtOneNodeBehindAnother() {
        TubeDesk desk = stem();
        desk.stick(0, 2, true);
        desk.stick(0, 1, true);
        desk.send(0, 1, 0);
        desk.tick(20);
        Check.due("at node 2", 2, desk.stuck(0, 1));
        desk.stick(0, 2, false);
        desk.tick(1);
        desk.stick(0, 2, true);
        desk.tick(3);
        Check.due("on its way to node 1", Plans.MOVING, desk.job(0, 0));
        desk.tick(1);
        Check.due("at node 1", 1, desk.stuck(0, 1));
    }

    private static void holdsItsZone() {
        TubeDesk desk = Plans.star();
        desk.stick(0, 0, true);
        desk.send(0, 1, 0);
        desk.send(2, 3, 0);
        Check.due("tick(50)", 1, desk.tick(50));
        Check.due("nothing begins", Plans.WAITING, desk.job(1, 0));
        Check.due("count(4)", 1, desk.count(4));
        desk.stick(0, 1, true);
        desk.stick(0, 0, false);
        Check.due("tick(4)", 0, desk.tick(4));
        Check.due("tick(1)", 1, desk.tick(1));
    }

    private static void sticksBeforeABay() {
        TubeDesk desk = Plans.row();
        desk.stick(0, 6, true);
        desk.send(0, 4, 0);
        desk.tick(30);
        Check.due("job(0, 0)", Plans.STUCK, desk.job(0, 0));
        Check.due("job(0, 1)", 0, desk.job(0, 1));
        Check.due("ahead(0, 0)", 5, desk.ahead(0, 0));
        desk.stick(0, 6, false);
        Check.due("into the bay and on", 1, desk.tick(1));
        Check.due("job(0, 1)", 1, desk.job(0, 1));
    }

    private static void wrongCalls() {
        TubeDesk open = Plans.openStar();
        Check.badState("not sealed", () -> open.stick(0, 1, true));
        Check.badArgument("not sealed, not there", () -> open.stick(0, 9, true));
        TubeDesk desk = Plans.star();
        Check.badArgument("zone -1", () -> desk.stick(-1, 0, true));
        Check.badArgument("zone 5", () -> desk.stick(5, 0, false));
        Check.badArgument("node -1", () -> desk.stick(0, -1, true));
        Check.badArgument("node 10", () -> desk.stick(0, 10, true));
        Check.badArgument("not there", () -> desk.stick(0, 5, true));
        Check.badArgument("not there in this zone", () -> desk.stick(1, 1, true));
        desk.stick(1, 0, true);
    }
}
