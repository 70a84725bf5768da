/** send: a job, its number and its way. */
final class Promise06SendTest {
    public static void main(String[] args) {
        numbersUpward();
        slotIsFreedByTheFirstPath();
        fortyJobs();
        wayWithoutClosedZones();
        wayOfAllIfAllAreClosed();
        wayOfAllIfAnEndIsClosed();
        wrongArguments();
        wrongStates();
        Check.end();
    }

    private static void numbersUpward() {
        TubeDesk desk = Plans.star();
        Check.due("send(3, 0, 3)", 0, desk.send(3, 0, 3));
        Check.due("send(0, 3, 0)", 1, desk.send(0, 3, 0));
        Check.due("job(0, 0)", Plans.WAITING, desk.job(0, 0));
        Check.due("job(0, 1)", 3, desk.job(0, 1));
        Check.due("job(0, 2)", 3, desk.job(0, 2));
        Check.due("job(1, 1)", 0, desk.job(1, 1));
        Check.due("job(1, 2)", 0, desk.job(1, 2));
        Check.due("count(1)", 2, desk.count(1));
    }

    private static void slotIsFreedByTheFirstPath() {
        TubeDesk desk = Plans.star();
        desk.send(0, 1, 0);
        Check.badState("a job in the slot", () -> desk.send(0, 2, 0));
        desk.send(1, 0, 0);
        desk.tick(1);
        Check.due("the first one moves", Plans.MOVING, desk.job(0, 0));
        Check.due("send(0, 2, 0)", 2, desk.send(0, 2, 0));
        Check.badState("the second one has not begun", () -> desk.send(1, 2, 0));
    }

    private static void fortyJobs() {
        TubeDesk desk = Plans.star();
        for (int j = 0; j < 40; j++) {
            Check.due("send " + j, j, desk.send(0, 1, j % 4));
            desk.tick(6);
            Check.due("take " + j, j, desk.take(1));
        }
        Check.badState("there were forty", () -> desk.send(0, 1, 0));
        Check.badArgument("there were forty, the same station", () -> desk.send(1, 1, 0));
        Check.due("count(1)", 40, desk.count(1));
        Check.due("count(2)", 0, desk.count(2));
        Check.due("job(39, 0)", Plans.TAKEN, desk.job(39, 0));
        Check.noneSuch("job(40, 0)", () -> desk.job(40, 0));
    }

    private static void wayWithoutClosedZones() {
        TubeDesk desk = Plans.ring(1, 9);
        desk.close(1, true);
        desk.send(0, 1, 0);
        Check.due("ahead(0, 0)", 1, desk.ahead(0, 0));
        Check.due("ahead(0, 1)", 2, desk.ahead(0, 1));
    }

    private static void wayOfAllIfAllAreClosed() {
        TubeDesk desk = Plans.ring(1, 9);
        desk.close(1, true);
        desk.close(2, true);
        desk.send(0, 1, 0);
        Check.due("ahead(0, 0)", 0, desk.ahead(0, 0));
        Check.due("ahead(0, 1)", 3, desk.ahead(0, 1));
        TubeDesk star = Plans.star();
        star.close(0, true);
        star.send(0, 1, 0);
        Check.due("job(0, 4)", 1, star.job(0, 4));
    }

    /** Zone 0 is its source's, zone 3 its goal's; a closed zone between them does not count then. */
    private static void wayOfAllIfAnEndIsClosed() {
        for (int end = 0; end <= 3; end += 3) {
            TubeDesk desk = Plans.ring(1, 9);
            desk.close(end, true);
            desk.close(1, true);
            desk.send(0, 1, 0);
            Check.due("ahead(0, 0), closed: " + end, 0, desk.ahead(0, 0));
            Check.due("ahead(0, 1), closed: " + end, 3, desk.ahead(0, 1));
            Check.due("job(0, 4), closed: " + end, 3, desk.job(0, 4));
        }
    }

    private static void wrongArguments() {
        TubeDesk desk = Plans.star();
        Check.badArgument("from -1", () -> desk.send(-1, 0, 0));
        Check.badArgument("from 12", () -> desk.send(12, 0, 0));
        Check.badArgument("from not there", () -> desk.send(4, 0, 0));
        Check.badArgument("to -1", () -> desk.send(0, -1, 0));
        Check.badArgument("to 12", () -> desk.send(0, 12, 0));
        Check.badArgument("to not there", () -> desk.send(0, 4, 0));
        Check.badArgument("the same", () -> desk.send(2, 2, 0));
        Check.badArgument("priority -1", () -> desk.send(0, 1, -1));
        Check.badArgument("priority 4", () -> desk.send(0, 1, 4));
        Check.due("count(1)", 0, desk.count(1));
        desk.send(0, 1, 0);
        Check.badArgument("a job in the slot, the same", () -> desk.send(0, 0, 0));
    }

    private static void wrongStates() {
        TubeDesk open = Plans.openStar();
        Check.badState("not sealed", () -> open.send(0, 1, 0));
        Check.badArgument("not sealed, not there", () -> open.send(0, 9, 0));
        Check.badArgument("not sealed, no such priority", () -> open.send(0, 1, 4));
        open.seal();
        Check.due("no job was left there", 0, open.send(0, 1, 0));
    }
}
