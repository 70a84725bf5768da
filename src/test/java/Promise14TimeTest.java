/** time: the time of the best way. */
final class Promise14TimeTest {
    public static void main(String[] args) {
        pathsOfOneZone();
        waysOfMoreZones();
        leastTime();
        equalTimes();
        moreZonesMayBeQuicker();
        closedZones();
        wrongCalls();
        Check.end();
    }

    private static void pathsOfOneZone() {
        TubeDesk star = Plans.star();
        for (int from = 0; from < 4; from++) {
            for (int to = 0; to < 4; to++) {
                if (from != to) {
                    Check.due("time(" + from + ", " + to + ")", from + to + 4, star.time(from, to));
                }
            }
        }
    }

    private static void waysOfMoreZones() {
        TubeDesk row = Plans.row();
        Check.due("one zone", 4, row.time(0, 3));
        Check.due("two zones", 4 + 3 + 4, row.time(0, 4));
        Check.due("back", 4 + 3 + 4, row.time(4, 0));
        Check.due("three zones", 4 + 3 + 4 + 3 + 4, row.time(0, 8));
        Check.due("back", 4 + 3 + 4 + 3 + 4, row.time(8, 0));
    }

    private static void leastTime() {
        TubeDesk desk = Plans.ring(3, 2);
        Check.due("by zone 2", 4 + 3 + 6 + 3 + 4, desk.time(0, 1));
        desk.send(0, 1, 0);
        Check.due("ahead(0, 0)", 1, desk.ahead(0, 0));
        Check.due("ahead(0, 1)", 2, desk.ahead(0, 1));
    }

    private static void equalTimes() {
        TubeDesk desk = Plans.ring(2, 2);
        desk.send(0, 1, 0);
        Check.due("the lesser first bay", 0, desk.ahead(0, 0));
        Check.due("though its second one is greater", 3, desk.ahead(0, 1));
        desk.send(1, 0, 0);
        Check.due("back: the lesser first bay", 2, desk.ahead(1, 0));
        Check.due("back", 1, desk.ahead(1, 1));
        equalSecondBays();
    }

    private static void equalSecondBays() {
        TubeDesk desk = new TubeDesk();
        for (int zone = 0; zone < 3; zone++) {
            for (int node = 1; node <= 4; node++) {
                desk.tube(zone, node, 0, 1);
            }
        }
        desk.station(0, 0, 1);
        desk.station(1, 2, 1);
        desk.bay(5, 0, 2, 1, 1);
        desk.bay(4, 0, 3, 1, 4);
        desk.bay(3, 1, 2, 2, 2);
        desk.bay(2, 2, 3, 1, 3);
        Check.due("seal()", 0, desk.seal());
        desk.send(0, 1, 0);
        Check.due("the lesser first one", 4, desk.ahead(0, 0));
        Check.due("the lesser second one", 2, desk.ahead(0, 1));
    }

    private static void moreZonesMayBeQuicker() {
        TubeDesk desk = new TubeDesk();
        for (int zone = 0; zone < 3; zone++) {
            desk.tube(zone, 1, 0, 1);
            desk.tube(zone, 2, 0, 1);
            desk.tube(zone, 3, 0, 9);
        }
        desk.station(0, 0, 1);
        desk.station(1, 2, 1);
        desk.bay(0, 0, 3, 2, 3);
        desk.bay(1, 0, 2, 1, 1);
        desk.bay(2, 1, 2, 2, 2);
        Check.due("seal()", 0, desk.seal());
        Check.due("time(0, 1)", 18, desk.time(0, 1));
        desk.close(1, true);
        Check.due("time(0, 1) straight on", 12 + 3 + 12, desk.time(0, 1));
    }

    private static void closedZones() {
        TubeDesk desk = Plans.ring(1, 2);
        Check.due("all are open", 18, desk.time(0, 1));
        desk.close(1, true);
        Check.due("by zone 2", 20, desk.time(0, 1));
        desk.close(2, true);
        Check.due("none in the middle", -1, desk.time(0, 1));
        desk.close(1, false);
        Check.due("by zone 1", 18, desk.time(0, 1));
        desk.close(0, true);
        Check.due("the first zone", -1, desk.time(0, 1));
        desk.close(0, false);
        desk.close(3, true);
        Check.due("the last zone", -1, desk.time(0, 1));
        TubeDesk star = Plans.star();
        star.close(0, true);
        Check.due("the only zone", -1, star.time(0, 1));
        star.close(0, false);
        star.close(1, true);
        Check.due("a zone that is on no way", 5, star.time(0, 1));
    }

    private static void wrongCalls() {
        TubeDesk open = Plans.openStar();
        Check.badState("not sealed", () -> open.time(0, 1));
        Check.badArgument("not sealed, the same", () -> open.time(0, 0));
        TubeDesk desk = Plans.star();
        Check.badArgument("time(-1, 0)", () -> desk.time(-1, 0));
        Check.badArgument("time(0, 12)", () -> desk.time(0, 12));
        Check.badArgument("time(4, 0), not there", () -> desk.time(4, 0));
        Check.badArgument("time(0, 4), not there", () -> desk.time(0, 4));
        Check.badArgument("time(3, 3)", () -> desk.time(3, 3));
        Check.badArgument("time(5, 5), neither is there", () -> desk.time(5, 5));
    }
}
