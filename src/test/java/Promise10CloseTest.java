/** close: a zone is closed, or opened, and ways are planned anew. */
final class Promise10CloseTest {
    public static void main(String[] args) {
        tellsWhetherItWasTheOtherWay();
        plansJobsInSlots();
        keepsTheWayIfThereIsNone();
        plansJobsInBays();
        movingJobsKeepTheirWay();
        stuckJobsKeepTheirWay();
        arrivedJobsHaveNone();
        nothingIsPlannedWithoutAChange();
        bayIsNotLeftByTheSideItCame();
        wrongCalls();
        Check.end();
    }

    private static void tellsWhetherItWasTheOtherWay() {
        TubeDesk desk = Plans.star();
        for (int zone = 0; zone < 5; zone++) {
            Check.due("open an open one", false, desk.close(zone, false));
            Check.due("close it", true, desk.close(zone, true));
            Check.due("close it again", false, desk.close(zone, true));
            Check.due("open it", true, desk.close(zone, false));
            Check.due("open it again", false, desk.close(zone, false));
        }
    }

    private static void plansJobsInSlots() {
        TubeDesk desk = Plans.ring(1, 9);
        desk.send(0, 1, 0);
        Check.due("by zone 1", 0, desk.ahead(0, 0));
        desk.close(1, true);
        Check.due("by zone 2", 1, desk.ahead(0, 0));
        Check.due("by zone 2", 2, desk.ahead(0, 1));
        desk.close(1, false);
        Check.due("by zone 1 again", 0, desk.ahead(0, 0));
        Check.due("by zone 1 again", 3, desk.ahead(0, 1));
    }

    private static void keepsTheWayIfThereIsNone() {
        TubeDesk desk = Plans.ring(1, 9);
        desk.send(0, 1, 0);
        desk.close(1, true);
        desk.close(2, true);
        Check.due("by zone 2 yet", 1, desk.ahead(0, 0));
        desk.close(3, true);
        desk.close(1, false);
        Check.due("the goal's zone is closed", 1, desk.ahead(0, 0));
        desk.close(3, false);
        Check.due("now there is one", 0, desk.ahead(0, 0));
        desk.close(0, true);
        desk.close(1, true);
        desk.close(2, false);
        Check.due("its own zone is closed", 0, desk.ahead(0, 0));
        Check.due("tick(9)", 0, desk.tick(9));
        desk.close(0, false);
        Check.due("opened", 1, desk.ahead(0, 0));
    }

    /**
     * Station 0 in zone 0, 1 in zone 2, 2 and 3 in zone 1. Bay 0 joins zones 0 and 1, bay 1 joins 1 and 2
     * by slow tubes, bays 2 and 3 go round by zone 3. From bay 0 the way round takes 18, the other one 27;
     * from station 0 the way round would have four zones.
     */
    private static TubeDesk roundabout() {
        TubeDesk desk = new TubeDesk();
        for (int zone = 0; zone < 4; zone++) {
            for (int node = 1; node <= 5; node++) {
                boolean slow = zone == 1 && node == 2 || zone == 2 && node == 2;
                desk.tube(zone, node, 0, slow ? 9 : 1);
            }
        }
        desk.station(0, 0, 1);
        desk.station(1, 2, 1);
        desk.station(2, 1, 4);
        desk.station(3, 1, 5);
        desk.bay(0, 0, 2, 1, 1);
        desk.bay(1, 1, 2, 2, 2);
        desk.bay(2, 1, 3, 3, 1);
        desk.bay(3, 3, 2, 2, 3);
        Check.due("seal()", 0, desk.seal());
        return desk;
    }

    private static void dueAhead(TubeDesk desk, int j, int first, int second) {
        Check.due("ahead(" + j + ", 0)", first, desk.ahead(j, 0));
        Check.due("ahead(" + j + ", 1)", second, desk.ahead(j, 1));
    }

    private static void plansJobsInBays() {
        TubeDesk desk = roundabout();
        desk.send(0, 1, 0);
        dueAhead(desk, 0, 0, 1);
        desk.tick(1);
        desk.close(1, true);
        desk.tick(10);
        Check.due("it waits in bay 0", Plans.IN_BAY, desk.job(0, 0));
        dueAhead(desk, 0, 1, -1);
        desk.close(4, true);
        dueAhead(desk, 0, 1, -1);
        desk.close(1, false);
        dueAhead(desk, 0, 2, 3);
        Check.due("zones left", 3, desk.job(0, 4));
        desk.close(3, true);
        dueAhead(desk, 0, 1, -1);
        Check.due("zones left", 2, desk.job(0, 4));
        desk.close(3, false);
        desk.close(0, true);
        dueAhead(desk, 0, 2, 3);
        Check.due("tick(100)", 3, desk.tick(100));
        Check.due("arrived", 11 + 1 + 4 + 4 + 4, desk.job(0, 5));
    }

    private static void movingJobsKeepTheirWay() {
        TubeDesk desk = Plans.ring(1, 9);
        desk.send(0, 1, 0);
        desk.tick(1);
        desk.close(1, true);
        Check.due("by zone 1", 0, desk.ahead(0, 0));
        desk.tick(20);
        Check.due("it waits in bay 0", Plans.IN_BAY, desk.job(0, 0));
        Check.due("bay", 0, desk.job(0, 1));
        Check.due("bay 3 is ahead", 3, desk.ahead(0, 0));
        desk.close(1, false);
        Check.due("tick(9)", 2, desk.tick(9));
        Check.due("job(0, 0)", Plans.ARRIVED, desk.job(0, 0));
    }

    private static void stuckJobsKeepTheirWay() {
        TubeDesk desk = Plans.ring(1, 9);
        desk.stick(0, 0, true);
        desk.send(0, 1, 0);
        desk.tick(2);
        Check.due("stuck", Plans.STUCK, desk.job(0, 0));
        desk.close(1, true);
        dueAhead(desk, 0, 0, 3);
        desk.send(0, 1, 0);
        dueAhead(desk, 1, 1, 2);
        desk.close(1, false);
        dueAhead(desk, 1, 0, 3);
    }

    private static void arrivedJobsHaveNone() {
        TubeDesk desk = Plans.ring(1, 9);
        desk.send(0, 1, 0);
        desk.tick(13);
        Check.due("arrived", 13, desk.job(0, 5));
        desk.close(1, true);
        dueAhead(desk, 0, -1, -1);
        desk.take(1);
        desk.close(1, false);
        dueAhead(desk, 0, -1, -1);
        Check.due("zones left", 0, desk.job(0, 4));
        Check.due("nothing begins", 0, desk.tick(10));
    }

    private static void nothingIsPlannedWithoutAChange() {
        TubeDesk desk = roundabout();
        desk.stick(1, 0, true);
        desk.send(2, 3, 0);
        desk.send(0, 1, 0);
        desk.tick(20);
        Check.due("zone 1 is held", Plans.STUCK, desk.job(0, 0));
        Check.due("one waits in bay 0", Plans.IN_BAY, desk.job(1, 0));
        Check.due("close(4, false)", false, desk.close(4, false));
        dueAhead(desk, 1, 1, -1);
        Check.due("close(4, true)", true, desk.close(4, true));
        dueAhead(desk, 1, 2, 3);
    }

    private static void bayIsNotLeftByTheSideItCame() {
        TubeDesk desk = Plans.ring(1, 1);
        desk.send(0, 1, 0);
        desk.tick(1);
        desk.close(1, true);
        desk.tick(10);
        desk.close(3, true);
        desk.close(3, false);
        Check.due("zone 1 is closed: it waits there, though zone 2 is open", 0, desk.tick(50));
        Check.due("in bay 0", 0, desk.job(0, 1));
        dueAhead(desk, 0, 3, -1);
        desk.close(1, false);
        desk.tick(1);
        Check.due("it goes on in zone 1", 1, desk.job(0, 1));
    }

    private static void wrongCalls() {
        TubeDesk open = Plans.openStar();
        Check.badState("not sealed", () -> open.close(0, true));
        Check.badState("not sealed, no change", () -> open.close(0, false));
        Check.badArgument("not sealed, no such zone", () -> open.close(5, true));
        TubeDesk desk = Plans.star();
        Check.badArgument("close(-1)", () -> desk.close(-1, true));
        Check.badArgument("close(5)", () -> desk.close(5, false));
    }
}
