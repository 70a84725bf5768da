/** bay: a bay between two nodes of different zones. */
final class Promise04BayTest {
    public static void main(String[] args) {
        joinsZones();
        wrongArguments();
        wrongStates();
        argumentsBeforeStates();
        Check.end();
    }

    private static TubeDesk twoZones() {
        TubeDesk desk = new TubeDesk();
        for (int zone = 0; zone < 2; zone++) {
            for (int node = 1; node <= 5; node++) {
                desk.tube(zone, node, 0, 2);
            }
            desk.station(zone, zone, 1);
        }
        return desk;
    }

    private static void joinsZones() {
        for (int b = 0; b < 6; b += 5) {
            TubeDesk desk = twoZones();
            desk.bay(b, 1, 2, 0, 3);
            Check.due("seal() with bay " + b, 0, desk.seal());
            Check.due("time(0, 1)", 15, desk.time(0, 1));
            desk.send(0, 1, 0);
            Check.due("ahead(0, 0)", b, desk.ahead(0, 0));
        }
    }

    private static void wrongArguments() {
        TubeDesk desk = twoZones();
        Check.badArgument("bay -1", () -> desk.bay(-1, 0, 2, 1, 2));
        Check.badArgument("bay 6", () -> desk.bay(6, 0, 2, 1, 2));
        Check.badArgument("zoneA -1", () -> desk.bay(0, -1, 2, 1, 2));
        Check.badArgument("zoneB 5", () -> desk.bay(0, 0, 2, 5, 2));
        Check.badArgument("nodeA 10", () -> desk.bay(0, 0, 10, 1, 2));
        Check.badArgument("nodeB -1", () -> desk.bay(0, 0, 2, 1, -1));
        Check.badArgument("nodeA not there", () -> desk.bay(0, 0, 6, 1, 2));
        Check.badArgument("nodeB not there", () -> desk.bay(0, 0, 2, 1, 6));
        Check.badArgument("one zone", () -> desk.bay(0, 0, 2, 0, 3));
        Check.badArgument("one node", () -> desk.bay(0, 0, 2, 0, 2));
        desk.bay(0, 0, 2, 1, 2);
    }

    private static void wrongStates() {
        TubeDesk desk = twoZones();
        Check.badState("a station at nodeA", () -> desk.bay(0, 0, 1, 1, 2));
        Check.badState("a station at nodeB", () -> desk.bay(0, 0, 2, 1, 1));
        desk.bay(0, 0, 2, 1, 2);
        Check.badState("the bay is there", () -> desk.bay(0, 0, 3, 1, 3));
        Check.badState("a bay's end at nodeA", () -> desk.bay(1, 0, 2, 1, 3));
        Check.badState("a bay's end at nodeB", () -> desk.bay(1, 0, 3, 1, 2));
        desk.bay(1, 0, 3, 1, 3);
        Check.due("seal()", 0, desk.seal());
        Check.badState("sealed", () -> desk.bay(2, 0, 4, 1, 4));
    }

    private static void argumentsBeforeStates() {
        TubeDesk desk = twoZones();
        Check.badArgument("a filled node, no such bay", () -> desk.bay(6, 0, 1, 1, 2));
        Check.badArgument("filled nodes of one zone", () -> desk.bay(0, 0, 1, 0, 1));
        desk.bay(0, 0, 2, 1, 2);
        Check.badArgument("the bay is there, no such node", () -> desk.bay(0, 0, 3, 1, 9));
        desk.seal();
        Check.badArgument("sealed, one zone", () -> desk.bay(1, 0, 3, 0, 4));
    }
}
