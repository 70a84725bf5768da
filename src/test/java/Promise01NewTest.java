/** A new object: roots alone; not sealed. */
final class Promise01NewTest {
    public static void main(String[] args) {
        rootsAreThere();
        nothingElseIsThere();
        objectsAreApart();
        Check.end();
    }

    private static void rootsAreThere() {
        TubeDesk desk = new TubeDesk();
        for (int zone = 0; zone < 5; zone++) {
            desk.station(zone, zone, 0);
        }
        Check.badArgument("station in zone 5", () -> desk.station(5, 5, 0));
        Check.due("seal of stations at lone roots, which are leaves", 3, desk.seal());
    }

    private static void nothingElseIsThere() {
        TubeDesk desk = new TubeDesk();
        for (int zone = 0; zone < 5; zone++) {
            for (int node = 1; node < 10; node++) {
                int z = zone;
                int n = node;
                Check.badArgument("station at " + z + " " + n, () -> desk.station(0, z, n));
            }
        }
        for (int s = 0; s < 12; s++) {
            int station = s;
            Check.badArgument("take(" + s + ")", () -> desk.take(station));
        }
        for (int what = 0; what <= 5; what++) {
            Check.due("count(" + what + ")", 0, desk.count(what));
        }
        Check.noneSuch("job(0, 0)", () -> desk.job(0, 0));
        Check.badState("tick(1)", () -> desk.tick(1));
        Check.due("seal()", 1, desk.seal());
    }

    private static void objectsAreApart() {
        TubeDesk one = Plans.star();
        TubeDesk other = new TubeDesk();
        one.send(0, 1, 0);
        one.tick(3);
        Check.due("count(0) of the other one", 0, other.count(0));
        Check.due("count(1) of the other one", 0, other.count(1));
        other.tube(0, 1, 0, 1);
        Check.due("seal() of the other one", 1, other.seal());
    }
}
