/** count: what there is to count. */
final class Promise15CountTest {
    public static void main(String[] args) {
        allCounts();
        noSuchCount();
        Check.end();
    }

    private static void dueCounts(TubeDesk desk, int... want) {
        for (int what = 0; what < want.length; what++) {
            Check.due("count(" + what + ") at " + want[0], want[what], desk.count(what));
        }
    }

    private static void allCounts() {
        TubeDesk desk = Plans.row();
        dueCounts(desk, 0, 0, 0, 0, 0, 0);
        desk.send(0, 1, 0);
        desk.send(4, 5, 0);
        desk.send(8, 4, 0);
        dueCounts(desk, 0, 3, 3, 0, 0, 0);
        desk.stick(1, 2, true);
        desk.tick(1);
        dueCounts(desk, 1, 3, 3, 3, 0, 3);
        desk.tick(4);
        dueCounts(desk, 5, 3, 3, 0, 1, 3);
        desk.take(1);
        dueCounts(desk, 5, 3, 2, 0, 1, 3);
        desk.stick(1, 2, false);
        desk.tick(1);
        dueCounts(desk, 6, 3, 2, 1, 0, 4);
        desk.tick(4);
        desk.take(4);
        desk.take(5);
        dueCounts(desk, 10, 3, 0, 0, 0, 4);
    }

    private static void noSuchCount() {
        TubeDesk desk = Plans.star();
        Check.due("count(6)", -1, desk.count(6));
        Check.due("count(-1)", -1, desk.count(-1));
        Check.due("count of the highest", -1, desk.count(Integer.MAX_VALUE));
        Check.due("count of the lowest", -1, desk.count(Integer.MIN_VALUE));
    }
}
