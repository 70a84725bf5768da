/** The document's "Terms": zones, nodes, tubes, leaves, paths and ways, each at its bounds. */
final class TermsPlanTest {
    public static void main(String[] args) {
        allThatThereMayBe();
        zonesAreApart();
        shortestPath();
        longestPathAndWay();
        pathsTurnWhereTheyMeet();
        oneThingAtALeaf();
        baysJoinDifferentZones();
        aZoneIsOnAWayOnce();
        fourthZoneIsTooMany();
        equalWaysOfOneAndTwoBays();
        equalWaysOfOneBay();
        Check.end();
    }

    private static void allThatThereMayBe() {
        TubeDesk desk = Plans.full();
        for (int from = 0; from < 12; from++) {
            for (int to = 0; to < 12; to++) {
                if (from != to) {
                    int zones = zonesOfFull(from % 5, to % 5);
                    Check.due("time(" + from + ", " + to + ")", 4 * zones + 3 * (zones - 1), desk.time(from, to));
                }
            }
        }
        for (int s = 0; s < 12; s++) {
            Check.due("send from " + s, s, desk.send(s, (s + 1) % 12, 0));
        }
        Check.due("one carrier in each zone", 5, desk.tick(1));
        Check.due("count(3)", 5, desk.count(3));
    }

    private static int zonesOfFull(int a, int b) {
        int lesser = Math.min(a, b);
        int greater = Math.max(a, b);
        if (a == b) {
            return 1;
        }
        boolean joined = lesser == 0 || lesser == 1 && greater == 2 || lesser == 3 && greater == 4;
        return joined ? 2 : 3;
    }

    private static void zonesAreApart() {
        TubeDesk desk = new TubeDesk();
        for (int zone = 0; zone < 5; zone++) {
            desk.tube(zone, 9, 0, 9 - zone);
            desk.tube(zone, 8, 0, 1);
        }
        desk.station(0, 4, 9);
        desk.station(1, 4, 8);
        Check.due("seal()", 0, desk.seal());
        Check.due("time(0, 1) in zone 4", 5 + 2 + 1, desk.time(0, 1));
    }

    private static void shortestPath() {
        TubeDesk desk = new TubeDesk();
        desk.tube(0, 1, 0, 1);
        desk.tube(0, 2, 0, 1);
        desk.station(0, 0, 1);
        desk.station(1, 0, 2);
        Check.due("seal()", 0, desk.seal());
        Check.due("time(0, 1)", 1 + 2 + 1, desk.time(0, 1));
        desk.send(0, 1, 0);
        desk.tick(4);
        Check.due("a tick too early", Plans.MOVING, desk.job(0, 0));
        desk.tick(1);
        Check.due("arrived", 5, desk.job(0, 5));
    }

    /** In each of three zones 5 - 4 - 3 - 2 - 1 - 0 - 6 - 7 - 8 - 9, all tubes of 9 ticks. */
    private static void longestPathAndWay() {
        TubeDesk desk = new TubeDesk();
        for (int zone = 0; zone < 3; zone++) {
            for (int node = 1; node <= 9; node++) {
                desk.tube(zone, node, node == 6 ? 0 : node - 1, 9);
            }
        }
        desk.bay(0, 0, 9, 1, 5);
        desk.bay(1, 1, 9, 2, 5);
        desk.station(0, 0, 5);
        desk.station(1, 2, 9);
        Check.due("seal()", 0, desk.seal());
        int path = 9 * 9 + 8 * 2;
        Check.due("time(0, 1)", 3 * path + 2 * 3, desk.time(0, 1));
        Check.due("time(1, 0)", 3 * path + 2 * 3, desk.time(1, 0));
        desk.send(0, 1, 0);
        desk.tick(path);
        Check.due("gone", path - 1, desk.job(0, 3));
        Check.due("into the bay and on", 1, desk.tick(1));
        desk.tick(100);
        desk.tick(100);
        Check.due("arrived", 1 + 3 * path, desk.job(0, 5));
    }

    /** 0 - 1 (9 ticks), 1 - 2 (1), 1 - 3 (2), 2 - 4 (3), 2 - 5 (4), 0 - 6 (5); leaves 3, 4, 5, 6. */
    private static void pathsTurnWhereTheyMeet() {
        TubeDesk desk = new TubeDesk();
        desk.tube(2, 1, 0, 9);
        desk.tube(2, 2, 1, 1);
        desk.tube(2, 3, 1, 2);
        desk.tube(2, 4, 2, 3);
        desk.tube(2, 5, 2, 4);
        desk.tube(2, 6, 0, 5);
        for (int node = 3; node <= 6; node++) {
            desk.station(node, 2, node);
        }
        Check.due("seal()", 0, desk.seal());
        Check.due("4 - 2 - 5", 3 + 2 + 4, desk.time(4, 5));
        Check.due("4 - 2 - 1 - 3", 3 + 2 + 1 + 2 + 2, desk.time(4, 3));
        Check.due("3 - 1 - 2 - 5", 2 + 2 + 1 + 2 + 4, desk.time(3, 5));
        Check.due("5 - 2 - 1 - 0 - 6", 4 + 2 + 1 + 2 + 9 + 2 + 5, desk.time(5, 6));
        Check.due("6 - 0 - 1 - 3", 5 + 2 + 9 + 2 + 2, desk.time(6, 3));
        desk.stick(2, 0, true);
        desk.stick(2, 1, true);
        desk.send(4, 5, 0);
        desk.tick(10);
        Check.due("it did not come to nodes 1 and 0", 10, desk.job(0, 5));
    }

    private static void oneThingAtALeaf() {
        TubeDesk desk = Plans.nodesOfZone(0, 9, 9);
        desk.tube(1, 1, 0, 1);
        desk.tube(1, 2, 0, 1);
        desk.station(0, 0, 1);
        desk.bay(0, 0, 2, 1, 1);
        for (int node = 1; node <= 2; node++) {
            int filled = node;
            Check.badState("a station at " + node, () -> desk.station(1, 0, filled));
            Check.badState("a bay's first end at " + node, () -> desk.bay(1, 0, filled, 1, 2));
            Check.badState("a bay's second end at " + node, () -> desk.bay(1, 1, 2, 0, filled));
        }
        desk.station(1, 0, 3);
        desk.bay(1, 1, 2, 0, 4);
        Check.due("seal()", 0, desk.seal());
    }

    private static void baysJoinDifferentZones() {
        TubeDesk desk = Plans.nodesOfZone(4, 9, 9);
        Check.badArgument("two leaves of one zone", () -> desk.bay(0, 4, 1, 4, 2));
        Check.badArgument("the same leaf", () -> desk.bay(0, 4, 1, 4, 1));
        desk.bay(0, 4, 1, 3, 0);
    }

    /** By zone 1 it would take 18, but the zone of both stations would be on the way twice. */
    private static void aZoneIsOnAWayOnce() {
        TubeDesk desk = new TubeDesk();
        desk.tube(0, 1, 0, 9);
        desk.tube(0, 2, 0, 9);
        for (int node = 3; node <= 6; node++) {
            desk.tube(0, node, node <= 4 ? 1 : 2, 1);
        }
        desk.tube(1, 1, 0, 1);
        desk.tube(1, 2, 0, 1);
        desk.station(0, 0, 3);
        desk.station(1, 0, 5);
        desk.bay(0, 0, 4, 1, 1);
        desk.bay(1, 1, 2, 0, 6);
        Check.due("seal()", 0, desk.seal());
        Check.due("time(0, 1)", 1 + 2 + 9 + 2 + 9 + 2 + 1, desk.time(0, 1));
        desk.send(0, 1, 0);
        Check.due("ahead(0, 0)", -1, desk.ahead(0, 0));
        Check.due("zones left", 1, desk.job(0, 4));
        desk.close(0, true);
        Check.due("time(0, 1), closed", -1, desk.time(0, 1));
        desk.close(0, false);
        desk.close(1, true);
        Check.due("time(0, 1), the other one closed", 26, desk.time(0, 1));
    }

    /** Zones 0 .. 3 in a row; the last station is one or two zones away from the first one, then three. */
    private static void fourthZoneIsTooMany() {
        for (int last = 1; last <= 3; last++) {
            TubeDesk desk = new TubeDesk();
            for (int zone = 0; zone < 4; zone++) {
                for (int node = 1; node <= 3; node++) {
                    desk.tube(zone, node, 0, 1);
                }
            }
            for (int b = 0; b < 3; b++) {
                desk.bay(b, b, 2, b + 1, 1);
            }
            desk.station(0, 0, 3);
            desk.station(1, last, 3);
            Check.due("seal() of " + (last + 1) + " zones", last == 3 ? 3 : 0, desk.seal());
            if (last < 3) {
                Check.due("time(0, 1)", 4 + 7 * last, desk.time(0, 1));
            }
        }
    }

    /**
     * Station 0 in zone 0, station 1 in zone 2. The bay 'straight' joins their zones by tubes of ticks0 and
     * ticks2: 9 + ticks0 + ticks2 in all; 'first' and 'second' go by zone 1: 18 in all.
     */
    private static TubeDesk triangle(int straight, int first, int second, int ticks0, int ticks2) {
        TubeDesk desk = new TubeDesk();
        for (int zone = 0; zone < 3; zone++) {
            desk.tube(zone, 1, 0, 1);
            desk.tube(zone, 2, 0, 1);
        }
        desk.tube(0, 3, 0, ticks0);
        desk.tube(2, 3, 0, ticks2);
        desk.station(0, 0, 1);
        desk.station(1, 2, 1);
        desk.bay(straight, 0, 3, 2, 3);
        desk.bay(first, 0, 2, 1, 1);
        desk.bay(second, 1, 2, 2, 2);
        return Plans.sealed(desk);
    }

    private static void dueWay(String call, TubeDesk desk, int time, int first, int second) {
        Check.due(call + ": time(0, 1)", time, desk.time(0, 1));
        desk.send(0, 1, 0);
        Check.due(call + ": ahead(0, 0)", first, desk.ahead(0, 0));
        Check.due(call + ": ahead(0, 1)", second, desk.ahead(0, 1));
    }

    private static void equalWaysOfOneAndTwoBays() {
        dueWay("the lesser first bay has another behind it", triangle(1, 0, 2, 4, 5), 18, 0, 2);
        dueWay("the lesser first bay is the only one", triangle(0, 1, 2, 4, 5), 18, 0, -1);
        dueWay("the second bay is the least", triangle(1, 2, 0, 4, 5), 18, 1, -1);
        dueWay("greatest numbers", triangle(5, 4, 3, 4, 5), 18, 4, 3);
        dueWay("one tick less by one bay", triangle(1, 0, 2, 4, 4), 17, 1, -1);
        dueWay("one tick less by two bays", triangle(0, 1, 2, 5, 5), 18, 1, 2);
    }

    /** Four bays between the same zones; all ways take the same time, but for the slow bay's. */
    private static void equalWaysOfOneBay() {
        for (int slow = 1; slow <= 2; slow++) {
            TubeDesk desk = new TubeDesk();
            for (int zone = 0; zone < 2; zone++) {
                for (int node = 1; node <= 5; node++) {
                    desk.tube(zone, node, 0, node == slow ? 3 : 2);
                }
                desk.station(zone, zone, 5);
            }
            for (int b = 4; b >= 1; b--) {
                desk.bay(b, 0, b, 1, b);
            }
            Check.due("seal()", 0, desk.seal());
            Check.due("time(0, 1)", 6 + 3 + 6, desk.time(0, 1));
            desk.send(0, 1, 0);
            Check.due("ahead(0, 0)", slow == 1 ? 2 : 1, desk.ahead(0, 0));
        }
    }
}
