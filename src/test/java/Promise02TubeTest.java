/** tube: a node with a tube to its parent. */
final class Promise02TubeTest {
    public static void main(String[] args) {
        nodesAndTicks();
        wrongArguments();
        wrongStates();
        argumentsBeforeStates();
        refusedTubesLeaveNothing();
        Check.end();
    }

    private static void nodesAndTicks() {
        TubeDesk desk = new TubeDesk();
        for (int node = 9; node >= 2; node--) {
            desk.tube(4, node, node == 9 ? 0 : node + 1, node);
        }
        desk.tube(4, 1, 0, 9);
        desk.station(0, 4, 1);
        desk.station(1, 4, 2);
        Check.due("seal()", 0, desk.seal());
        int tubes = 9 + 2 + 3 + 4 + 5 + 6 + 7 + 8 + 9;
        Check.due("time along all ten nodes", tubes + 2 * 8, desk.time(0, 1));
        Check.due("time back", tubes + 2 * 8, desk.time(1, 0));
    }

    private static void wrongArguments() {
        TubeDesk desk = new TubeDesk();
        Check.badArgument("zone -1", () -> desk.tube(-1, 1, 0, 1));
        Check.badArgument("zone 5", () -> desk.tube(5, 1, 0, 1));
        Check.badArgument("node -1", () -> desk.tube(0, -1, 0, 1));
        Check.badArgument("node 0", () -> desk.tube(0, 0, 0, 1));
        Check.badArgument("node 10", () -> desk.tube(0, 10, 0, 1));
        Check.badArgument("ticks 0", () -> desk.tube(0, 1, 0, 0));
        Check.badArgument("ticks 10", () -> desk.tube(0, 1, 0, 10));
        Check.badArgument("parent -1", () -> desk.tube(0, 1, -1, 1));
        Check.badArgument("parent 10", () -> desk.tube(0, 1, 10, 1));
        Check.badArgument("parent not there", () -> desk.tube(0, 1, 2, 1));
        Check.badArgument("its own parent", () -> desk.tube(0, 1, 1, 1));
        Check.badArgument("lowest numbers", () -> desk.tube(Integer.MIN_VALUE, Integer.MIN_VALUE, Integer.MIN_VALUE, 1));
        Check.badArgument("highest numbers", () -> desk.tube(Integer.MAX_VALUE, Integer.MAX_VALUE, Integer.MAX_VALUE, 1));
        desk.tube(0, 1, 0, 1);
        Check.badArgument("parent in another zone", () -> desk.tube(1, 2, 1, 1));
    }

    private static void wrongStates() {
        TubeDesk desk = new TubeDesk();
        desk.tube(0, 1, 0, 1);
        Check.badState("the same again", () -> desk.tube(0, 1, 0, 1));
        Check.badState("its own parent, when it is there", () -> desk.tube(0, 1, 1, 1));
        desk.tube(1, 1, 0, 1);
        TubeDesk star = Plans.star();
        Check.badState("sealed", () -> star.tube(0, 5, 0, 1));
    }

    private static void argumentsBeforeStates() {
        TubeDesk star = Plans.star();
        Check.badArgument("sealed, no such zone", () -> star.tube(5, 5, 0, 1));
        Check.badArgument("sealed, no such parent", () -> star.tube(0, 5, 6, 1));
        Check.badArgument("the node is there, no such ticks", () -> star.tube(0, 1, 0, 0));
        Check.badArgument("the node is there, no such parent", () -> star.tube(0, 1, 7, 1));
    }

    private static void refusedTubesLeaveNothing() {
        TubeDesk desk = new TubeDesk();
        desk.tube(0, 1, 0, 3);
        desk.tube(0, 2, 0, 3);
        desk.station(0, 0, 1);
        desk.station(1, 0, 2);
        Check.badArgument("ticks 10 below 1", () -> desk.tube(0, 3, 1, 10));
        Check.badState("2 again, below 1", () -> desk.tube(0, 2, 1, 9));
        Check.due("seal(): 1 and 2 are leaves yet", 0, desk.seal());
        Check.due("time(0, 1)", 8, desk.time(0, 1));
    }
}
