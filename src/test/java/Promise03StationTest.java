/** station: a station at a node. */
final class Promise03StationTest {
    public static void main(String[] args) {
        firstAndLast();
        wrongArguments();
        wrongStates();
        argumentsBeforeStates();
        Check.end();
    }

    private static void firstAndLast() {
        TubeDesk desk = new TubeDesk();
        desk.tube(2, 9, 0, 1);
        desk.tube(2, 5, 0, 4);
        desk.station(0, 2, 9);
        Check.noneSuch("take(0)", () -> desk.take(0));
        Check.badArgument("take(11) before", () -> desk.take(11));
        desk.station(11, 2, 5);
        Check.noneSuch("take(11) behind", () -> desk.take(11));
        Check.due("seal()", 0, desk.seal());
        Check.due("time(0, 11)", 7, desk.time(0, 11));
    }

    private static void wrongArguments() {
        TubeDesk desk = new TubeDesk();
        Check.badArgument("station -1", () -> desk.station(-1, 0, 0));
        Check.badArgument("station 12", () -> desk.station(12, 0, 0));
        Check.badArgument("zone -1", () -> desk.station(0, -1, 0));
        Check.badArgument("zone 5", () -> desk.station(0, 5, 0));
        Check.badArgument("node -1", () -> desk.station(0, 0, -1));
        Check.badArgument("node 10", () -> desk.station(0, 0, 10));
        Check.badArgument("node not there", () -> desk.station(0, 0, 1));
        Check.badArgument("lowest", () -> desk.station(Integer.MIN_VALUE, 0, 0));
        Check.badArgument("highest", () -> desk.station(0, 0, Integer.MAX_VALUE));
        desk.station(0, 0, 0);
    }

    private static void wrongStates() {
        TubeDesk desk = Plans.openStar();
        desk.tube(0, 5, 0, 1);
        desk.tube(1, 1, 0, 1);
        Check.badState("the station is there", () -> desk.station(0, 0, 5));
        Check.badState("the node has a station", () -> desk.station(4, 0, 1));
        desk.bay(0, 0, 5, 1, 1);
        Check.badState("the node has a bay's first end", () -> desk.station(4, 0, 5));
        Check.badState("the node has a bay's second end", () -> desk.station(4, 1, 1));
        desk.tube(0, 6, 0, 1);
        Check.due("seal()", 0, desk.seal());
        Check.badState("sealed", () -> desk.station(4, 0, 6));
    }

    private static void argumentsBeforeStates() {
        TubeDesk star = Plans.star();
        Check.badArgument("sealed, no such station", () -> star.station(12, 0, 0));
        Check.badArgument("sealed, no such node", () -> star.station(0, 0, 9));
        TubeDesk open = Plans.openStar();
        Check.badArgument("a filled node, no such station", () -> open.station(12, 0, 1));
        Check.badArgument("the station is there, no such node", () -> open.station(0, 0, 9));
    }
}
