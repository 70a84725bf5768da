/** take: the job of the basket that arrived first. */
final class Promise07TakeTest {
    public static void main(String[] args) {
        firstArrivedFirstTaken();
        onlyWhatArrived();
        takenMakesRoom();
        wrongCalls();
        Check.end();
    }

    private static void firstArrivedFirstTaken() {
        TubeDesk desk = Plans.star();
        desk.send(0, 3, 0);
        desk.send(1, 3, 3);
        desk.tick(30);
        Check.due("job(1, 5)", 1 + 8, desk.job(1, 5));
        Check.due("job(0, 5)", 9 + 7, desk.job(0, 5));
        Check.due("take(3)", 1, desk.take(3));
        Check.due("job(1, 0)", Plans.TAKEN, desk.job(1, 0));
        Check.due("job(0, 0)", Plans.ARRIVED, desk.job(0, 0));
        Check.due("count(2)", 1, desk.count(2));
        Check.due("take(3)", 0, desk.take(3));
        Check.noneSuch("take(3) of an empty basket", () -> desk.take(3));
    }

    private static void onlyWhatArrived() {
        TubeDesk desk = Plans.star();
        desk.send(0, 1, 0);
        Check.noneSuch("its source's basket", () -> desk.take(0));
        Check.noneSuch("while it waits", () -> desk.take(1));
        desk.tick(5);
        Check.noneSuch("while it moves", () -> desk.take(1));
        desk.tick(1);
        Check.noneSuch("another basket", () -> desk.take(2));
        Check.due("take(1)", 0, desk.take(1));
    }

    private static void takenMakesRoom() {
        TubeDesk desk = Plans.star();
        desk.send(0, 3, 0);
        desk.send(1, 3, 0);
        desk.send(2, 3, 0);
        Check.due("tick(50)", 2, desk.tick(50));
        Check.due("job(2, 0)", Plans.WAITING, desk.job(2, 0));
        desk.take(3);
        Check.due("tick(50)", 1, desk.tick(50));
        Check.due("job(2, 0)", Plans.ARRIVED, desk.job(2, 0));
        Check.due("take(3)", 1, desk.take(3));
        Check.due("take(3)", 2, desk.take(3));
    }

    private static void wrongCalls() {
        TubeDesk desk = Plans.openStar();
        Check.badArgument("take(-1)", () -> desk.take(-1));
        Check.badArgument("take(12)", () -> desk.take(12));
        Check.badArgument("take(4), not there", () -> desk.take(4));
        Check.noneSuch("take(0), not sealed", () -> desk.take(0));
    }
}
