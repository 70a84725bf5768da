/** seal: 0, or what stands against it. */
final class Promise05SealTest {
    public static void main(String[] args) {
        tooFewStations();
        noLeaves();
        noWay();
        lesserFaultFirst();
        sealedOnce();
        threeZonesAtMost();
        Check.end();
    }

    private static void tooFewStations() {
        TubeDesk desk = new TubeDesk();
        Check.due("seal() with none", 1, desk.seal());
        desk.tube(0, 1, 0, 1);
        desk.tube(0, 2, 0, 1);
        desk.station(7, 0, 1);
        Check.due("seal() with one", 1, desk.seal());
        desk.station(3, 0, 2);
        Check.due("seal() with two", 0, desk.seal());
    }

    private static void noLeaves() {
        TubeDesk desk = Plans.openStar();
        desk.tube(0, 5, 4, 1);
        Check.due("seal(), a station with a node below", 2, desk.seal());

        TubeDesk first = Plans.openStar();
        first.tube(0, 5, 0, 1);
        first.tube(0, 6, 5, 1);
        first.bay(0, 0, 5, 1, 0);
        Check.due("seal(), a bay's first end with a node below", 2, first.seal());

        TubeDesk second = Plans.openStar();
        second.tube(1, 1, 0, 1);
        second.tube(0, 5, 0, 1);
        second.bay(5, 0, 5, 1, 0);
        Check.due("seal(), a bay's second end with a node below", 2, second.seal());

        TubeDesk lone = Plans.openStar();
        lone.tube(0, 5, 0, 1);
        lone.bay(5, 0, 5, 1, 0);
        Check.due("seal(), a lone root is a leaf", 0, lone.seal());
    }

    private static void noWay() {
        TubeDesk desk = Plans.openStar();
        desk.tube(1, 1, 0, 1);
        desk.tube(1, 2, 0, 1);
        desk.station(4, 1, 1);
        Check.due("seal() without a bay", 3, desk.seal());
        desk.tube(0, 5, 0, 1);
        desk.bay(2, 1, 2, 0, 5);
        Check.due("seal() with one", 0, desk.seal());
    }

    private static void lesserFaultFirst() {
        TubeDesk desk = new TubeDesk();
        desk.tube(0, 1, 0, 1);
        desk.station(0, 0, 0);
        Check.due("seal(), one station at no leaf", 1, desk.seal());
        desk.tube(1, 1, 0, 1);
        desk.station(1, 1, 1);
        Check.due("seal(), at no leaf and without a way", 2, desk.seal());
    }

    private static void sealedOnce() {
        TubeDesk desk = new TubeDesk();
        Check.due("seal()", 1, desk.seal());
        Check.badState("tick(1) behind a seal that failed", () -> desk.tick(1));
        desk.tube(0, 1, 0, 1);
        TubeDesk star = Plans.star();
        Check.badState("seal() again", star::seal);
        Check.badState("seal() a third time", star::seal);
        Check.due("tick(1)", 0, star.tick(1));
    }

    private static void threeZonesAtMost() {
        TubeDesk desk = new TubeDesk();
        for (int zone = 0; zone < 4; zone++) {
            for (int node = 1; node <= 4; node++) {
                desk.tube(zone, node, 0, 1);
            }
        }
        for (int b = 0; b < 3; b++) {
            desk.bay(b, b, 2, b + 1, 1);
        }
        desk.station(0, 0, 3);
        desk.station(1, 3, 3);
        Check.due("seal(), four zones in a row", 3, desk.seal());
        desk.bay(3, 0, 4, 2, 4);
        Check.due("seal(), three of them are enough", 0, desk.seal());
        Check.due("time(0, 1)", 4 + 3 + 4 + 3 + 4, desk.time(0, 1));
    }
}
