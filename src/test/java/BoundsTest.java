/** Each number that a call takes: the last values that are allowed, and the first ones that are not. */
final class BoundsTest {
    private static final int LAST_ZONE = 4;
    private static final int LAST_NODE = 9;
    private static final int LONGEST_TUBE = 9;
    private static final int LAST_STATION = 11;
    private static final int LAST_BAY = 5;

    public static void main(String[] args) {
        tube();
        station();
        bay();
        send();
        take();
        tick();
        stick();
        close();
        job();
        ahead();
        stuck();
        time();
        count();
        Check.end();
    }

    private static void tube() {
        Check.allowed("tube, zone", 0, LAST_ZONE, v -> new TubeDesk().tube(v, 1, 0, 1));
        Check.allowed("tube, node", 1, LAST_NODE, v -> new TubeDesk().tube(0, v, 0, 1));
        Check.allowed("tube, parent", 0, LAST_NODE, v -> Plans.nodesOfZone(0, LAST_NODE, 8).tube(0, 8, v, 1));
        Check.allowed("tube, ticks", 1, LONGEST_TUBE, v -> new TubeDesk().tube(0, 1, 0, v));
        TubeDesk desk = Plans.nodesOfZone(0, LAST_NODE, 8);
        Check.badArguments("tube, zone", 0, LAST_ZONE, v -> desk.tube(v, 8, 0, 1));
        Check.badArguments("tube, node", 1, LAST_NODE, v -> desk.tube(0, v, 0, 1));
        Check.badArguments("tube, parent", 0, LAST_NODE, v -> desk.tube(0, 8, v, 1));
        Check.badArguments("tube, ticks", 1, LONGEST_TUBE, v -> desk.tube(0, 8, 0, v));
        Check.badArgument("tube, a parent that is not there", () -> desk.tube(0, 8, 8, 1));
        desk.tube(0, 8, 0, 1);
    }

    private static void station() {
        Check.allowed("station, s", 0, LAST_STATION, v -> new TubeDesk().station(v, 0, 0));
        Check.allowed("station, zone", 0, LAST_ZONE, v -> new TubeDesk().station(0, v, 0));
        Check.allowed("station, node", 0, LAST_NODE, v -> Plans.nodesOfZone(0, LAST_NODE, 8).station(0, 0, v));
        TubeDesk desk = Plans.nodesOfZone(0, LAST_NODE, 8);
        Check.badArguments("station, s", 0, LAST_STATION, v -> desk.station(v, 0, 0));
        Check.badArguments("station, zone", 0, LAST_ZONE, v -> desk.station(0, v, 0));
        Check.badArguments("station, node", 0, LAST_NODE, v -> desk.station(0, 0, v));
        Check.badArgument("station, a node that is not there", () -> desk.station(0, 0, 8));
        desk.station(0, 0, 0);
    }

    private static void bay() {
        Check.allowed("bay, b", 0, LAST_BAY, v -> new TubeDesk().bay(v, 0, 0, 1, 0));
        Check.allowed("bay, zoneA", 0, LAST_ZONE, v -> new TubeDesk().bay(0, v, 0, 2, 0));
        Check.allowed("bay, zoneB", 0, LAST_ZONE, v -> new TubeDesk().bay(0, 2, 0, v, 0));
        Check.allowed("bay, nodeA", 0, LAST_NODE, v -> Plans.nodesOfZone(3, LAST_NODE, 8).bay(0, 3, v, 2, 0));
        Check.allowed("bay, nodeB", 0, LAST_NODE, v -> Plans.nodesOfZone(3, LAST_NODE, 8).bay(0, 2, 0, 3, v));
        TubeDesk desk = Plans.nodesOfZone(3, LAST_NODE, 8);
        Check.badArguments("bay, b", 0, LAST_BAY, v -> desk.bay(v, 3, 0, 2, 0));
        Check.badArguments("bay, zoneA", 0, LAST_ZONE, v -> desk.bay(0, v, 0, 2, 0));
        Check.badArguments("bay, zoneB", 0, LAST_ZONE, v -> desk.bay(0, 2, 0, v, 0));
        Check.badArguments("bay, nodeA", 0, LAST_NODE, v -> desk.bay(0, 3, v, 2, 0));
        Check.badArguments("bay, nodeB", 0, LAST_NODE, v -> desk.bay(0, 2, 0, 3, v));
        Check.badArguments("bay, both zones alike", 0, LAST_ZONE, v -> desk.bay(0, v, 0, v, 0));
        for (int zone = 0; zone <= LAST_ZONE; zone++) {
            int same = zone;
            Check.badArgument("bay, twice zone " + zone, () -> desk.bay(0, same, 0, same, 0));
        }
        Check.badArgument("bay, a nodeA that is not there", () -> desk.bay(0, 3, 8, 2, 0));
        Check.badArgument("bay, a nodeB that is not there", () -> desk.bay(0, 2, 0, 3, 8));
        desk.bay(0, 3, 0, 2, 0);
    }

    private static void send() {
        Check.allowed("send, from", 0, LAST_STATION, v -> Plans.full().send(v, 5, 0));
        Check.allowed("send, to", 0, LAST_STATION, v -> Plans.full().send(5, v, 0));
        Check.allowed("send, priority", 0, 3, v -> Plans.full().send(5, 6, v));
        TubeDesk desk = Plans.full();
        Check.badArguments("send, from", 0, LAST_STATION, v -> desk.send(v, 5, 0));
        Check.badArguments("send, to", 0, LAST_STATION, v -> desk.send(5, v, 0));
        Check.badArguments("send, priority", 0, 3, v -> desk.send(5, 6, v));
        for (int s = 0; s <= LAST_STATION; s++) {
            int same = s;
            Check.badArgument("send, twice station " + s, () -> desk.send(same, same, 0));
        }
        TubeDesk star = Plans.star();
        Check.allowed("send, from the stations that are there", 0, 3, v -> star.send(v, 1, 0));
        Check.badArguments("send, from those that are not", 0, 3, v -> star.send(v, 2, 0));
        Check.badArguments("send, to those that are not", 0, 3, v -> star.send(2, v, 0));
    }

    private static void take() {
        TubeDesk desk = Plans.full();
        Check.noneSuch("take(0) of an empty basket", () -> desk.take(0));
        Check.noneSuch("take(11) of an empty basket", () -> desk.take(LAST_STATION));
        Check.badArguments("take", 0, LAST_STATION, desk::take);
        Check.badArguments("take, those that are not there", 0, 3, Plans.star()::take);
    }

    private static void tick() {
        Check.allowed("tick", 1, 100, Plans.full()::tick);
        TubeDesk desk = Plans.full();
        Check.badArguments("tick", 1, 100, desk::tick);
        Check.due("no tick was done", 0, desk.count(0));
        desk.tick(1);
        Check.due("one was done", 1, desk.count(0));
        desk.tick(100);
        Check.due("a hundred were done", 101, desk.count(0));
    }

    private static void stick() {
        TubeDesk desk = Plans.full();
        Check.allowed("stick, zone", 0, LAST_ZONE, v -> desk.stick(v, 0, true));
        Check.allowed("stick, node", 0, LAST_NODE, v -> desk.stick(0, v, true));
        Check.badArguments("stick, zone", 0, LAST_ZONE, v -> desk.stick(v, 0, true));
        Check.badArguments("stick, node", 0, LAST_NODE, v -> desk.stick(0, v, true));
        TubeDesk star = Plans.star();
        Check.allowed("stick, nodes that are there", 0, 4, v -> star.stick(0, v, false));
        Check.badArguments("stick, nodes that are not", 0, 4, v -> star.stick(0, v, false));
    }

    private static void close() {
        TubeDesk desk = Plans.full();
        Check.allowed("close", 0, LAST_ZONE, v -> desk.close(v, true));
        Check.badArguments("close", 0, LAST_ZONE, v -> desk.close(v, true));
        Check.badArguments("open", 0, LAST_ZONE, v -> desk.close(v, false));
    }

    private static void job() {
        TubeDesk desk = Plans.full();
        Check.noneSuchOutside("job, j of none", 1, 0, v -> desk.job(v, 0));
        desk.send(0, 1, 0);
        desk.send(1, 2, 0);
        desk.send(2, 3, 0);
        Check.allowed("job, j", 0, 2, v -> desk.job(v, 0));
        Check.allowed("job, what", 0, 5, v -> desk.job(2, v));
        Check.noneSuchOutside("job, j", 0, 2, v -> desk.job(v, 0));
        Check.badArguments("job, what", 0, 5, v -> desk.job(2, v));
        Check.noneSuchOutside("job, j with a wrong what", 0, 2, v -> desk.job(v, 6));
    }

    private static void ahead() {
        TubeDesk desk = Plans.full();
        Check.noneSuchOutside("ahead, j of none", 1, 0, v -> desk.ahead(v, 0));
        desk.send(0, 1, 0);
        desk.send(1, 2, 0);
        Check.allowed("ahead, j", 0, 1, v -> desk.ahead(v, 0));
        Check.allowed("ahead, i", 0, Integer.MAX_VALUE, v -> desk.ahead(1, v));
        Check.noneSuchOutside("ahead, j", 0, 1, v -> desk.ahead(v, 0));
        Check.badArgument("ahead, i -1", () -> desk.ahead(1, -1));
        Check.badArgument("ahead, the lowest i", () -> desk.ahead(1, Integer.MIN_VALUE));
        Check.noneSuchOutside("ahead, j with a wrong i", 0, 1, v -> desk.ahead(v, -1));
    }

    private static void stuck() {
        TubeDesk desk = Plans.star();
        desk.stick(0, 0, true);
        desk.send(0, 1, 0);
        desk.tick(2);
        Check.allowed("stuck, part", 0, 1, v -> desk.stuck(0, v));
        Check.noneSuchOutside("stuck, j", 0, 0, v -> desk.stuck(v, 0));
        Check.badArguments("stuck, part", 0, 1, v -> desk.stuck(0, v));
        Check.noneSuchOutside("stuck, j with a wrong part", 0, 0, v -> desk.stuck(v, 2));
    }

    private static void time() {
        TubeDesk desk = Plans.full();
        Check.allowed("time, from", 0, LAST_STATION, v -> desk.time(v, 5));
        Check.allowed("time, to", 0, LAST_STATION, v -> desk.time(5, v));
        Check.badArguments("time, from", 0, LAST_STATION, v -> desk.time(v, 5));
        Check.badArguments("time, to", 0, LAST_STATION, v -> desk.time(5, v));
        for (int s = 0; s <= LAST_STATION; s++) {
            int same = s;
            Check.badArgument("time, twice station " + s, () -> desk.time(same, same));
        }
        TubeDesk star = Plans.star();
        Check.badArguments("time, from those that are not there", 0, 3, v -> star.time(v, 1));
        Check.badArguments("time, to those that are not there", 0, 3, v -> star.time(1, v));
    }

    private static void count() {
        TubeDesk desk = Plans.full();
        int[] outside = {Integer.MIN_VALUE, -256, -1, 6, 256, 65536, Integer.MAX_VALUE};
        for (int what : outside) {
            Check.due("count(" + what + ")", -1, desk.count(what));
        }
        for (int what = 0; what <= 5; what++) {
            Check.due("count(" + what + ")", 0, desk.count(what));
        }
    }
}
