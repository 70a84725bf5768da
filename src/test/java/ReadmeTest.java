/** The calls that README.md shows under "Use", in its order, with the answers that it tells. */
final class ReadmeTest {
    public static void main(String[] args) {
        TubeDesk desk = plan();
        Check.due("seal()", 0, desk.seal());
        Check.due("time(0, 1)", 17, desk.time(0, 1));
        int job = desk.send(0, 1, 2);
        Check.due("send(0, 1, 2)", 0, job);
        Check.due("ahead(job, 0)", 0, desk.ahead(job, 0));
        intoTheBay(desk, job);
        throughTheRoot(desk, job);
        Check.due("take(1)", 0, desk.take(1));
        Check.end();
    }

    private static TubeDesk plan() {
        TubeDesk desk = new TubeDesk();
        desk.tube(0, 1, 0, 3);
        desk.tube(0, 2, 0, 4);
        desk.tube(1, 1, 0, 1);
        desk.tube(1, 2, 0, 2);
        desk.station(0, 0, 1);
        desk.station(1, 1, 2);
        desk.bay(0, 0, 2, 1, 1);
        return desk;
    }

    private static void intoTheBay(TubeDesk desk, int job) {
        Check.due("close(1, true)", true, desk.close(1, true));
        Check.due("tick(10)", 1, desk.tick(10));
        Check.due("job(job, 0)", Plans.IN_BAY, desk.job(job, 0));
        Check.due("close(1, false)", true, desk.close(1, false));
    }

    private static void throughTheRoot(TubeDesk desk, int job) {
        desk.stick(1, 0, true);
        Check.due("tick(2)", 1, desk.tick(2));
        Check.due("job(job, 0)", Plans.STUCK, desk.job(job, 0));
        Check.due("stuck(job, 1)", 0, desk.stuck(job, 1));
        desk.stick(1, 0, false);
        Check.due("tick(5)", 0, desk.tick(5));
        Check.due("job(job, 5)", 17, desk.job(job, 5));
    }
}
