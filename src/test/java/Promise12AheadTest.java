/** ahead: the bays that are still ahead. */
final class Promise12AheadTest {
    public static void main(String[] args) {
        fewerFromBayToBay();
        noneInOneZone();
        wrongCalls();
        Check.end();
    }

    private static void dueAhead(TubeDesk desk, int... want) {
        for (int i = 0; i < 4; i++) {
            String call = "ahead(0, " + i + ") at " + desk.count(0);
            Check.due(call, i < want.length ? want[i] : -1, desk.ahead(0, i));
        }
        Check.due("far ahead", -1, desk.ahead(0, Integer.MAX_VALUE));
    }

    private static void fewerFromBayToBay() {
        TubeDesk desk = Plans.row();
        desk.send(8, 0, 0);
        dueAhead(desk, 3, 5);
        desk.tick(1);
        dueAhead(desk, 3, 5);
        desk.close(1, true);
        desk.tick(10);
        Check.due("in a bay", Plans.IN_BAY, desk.job(0, 0));
        dueAhead(desk, 5);
        desk.close(1, false);
        desk.tick(1);
        dueAhead(desk, 5);
        desk.tick(4);
        Check.due("in the last zone", 0, desk.job(0, 1));
        dueAhead(desk);
        desk.tick(4);
        Check.due("arrived", Plans.ARRIVED, desk.job(0, 0));
        dueAhead(desk);
        desk.take(0);
        dueAhead(desk);
    }

    private static void noneInOneZone() {
        TubeDesk desk = Plans.row();
        desk.send(0, 1, 0);
        dueAhead(desk);
    }

    private static void wrongCalls() {
        TubeDesk desk = Plans.row();
        Check.noneSuch("ahead(0, 0) of none", () -> desk.ahead(0, 0));
        desk.send(0, 4, 0);
        Check.noneSuch("ahead(-1, 0)", () -> desk.ahead(-1, 0));
        Check.noneSuch("ahead(1, 0)", () -> desk.ahead(1, 0));
        Check.noneSuch("ahead(1, -1), neither is there", () -> desk.ahead(1, -1));
        Check.badArgument("ahead(0, -1)", () -> desk.ahead(0, -1));
        Check.badArgument("ahead(0, lowest)", () -> desk.ahead(0, Integer.MIN_VALUE));
    }
}
