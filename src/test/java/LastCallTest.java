/** An object is used for at most 512 calls: all of them are answered, the last one too. */
final class LastCallTest {
    private static final int CALLS = 512;

    public static void main(String[] args) {
        mostTicks();
        mostJobs();
        fortyAtOnce();
        mostClosings();
        Check.end();
    }

    /** openStar() makes 8 calls, seal() one, send() one; then all the rest but two are the longest ticks. */
    private static void mostTicks() {
        TubeDesk desk = Plans.star();
        desk.send(0, 1, 3);
        int ticks = CALLS - 8 - 1 - 1 - 2;
        for (int i = 0; i < ticks; i++) {
            desk.tick(100);
        }
        Check.due("the moment", 100 * ticks, desk.count(0));
        Check.due("the rank", 3 + 100 * ticks / 20, desk.job(0, 2));
    }

    private static void mostJobs() {
        TubeDesk desk = Plans.star();
        for (int j = 0; j < 40; j++) {
            Check.due("send", j, desk.send(j % 4, (j + 1) % 4, 0));
            desk.tick(10);
            Check.due("take", j, desk.take((j + 1) % 4));
        }
        for (int i = 0; i < CALLS - 9 - 120; i++) {
            Check.badState("there were forty", () -> desk.send(0, 1, 0));
        }
        Check.due("count(1)", 40, desk.count(1));
        Check.due("count(2)", 0, desk.count(2));
        Check.due("count(5)", 40, desk.count(5));
    }

    /** Twenty-four fill all baskets; the others stay in slots and bays, and none is taken. */
    private static void fortyAtOnce() {
        TubeDesk desk = Plans.row();
        for (int round = 0; round < 5; round++) {
            sendFromFreeSlots(desk);
            desk.tick(100);
        }
        Check.due("count(1)", 40, desk.count(1));
        Check.due("count(2)", 40, desk.count(2));
        for (int j = 0; j < 24; j++) {
            Check.due("in a basket", Plans.ARRIVED, desk.job(j, 0));
        }
        Check.due("slot 7 is free, since its last job is in a bay", Plans.IN_BAY, desk.job(37, 0));
        Check.badState("but there were forty", () -> desk.send(7, 8, 0));
    }

    private static void sendFromFreeSlots(TubeDesk desk) {
        for (int s = 0; s < 12; s++) {
            try {
                desk.send(s, (s + 1) % 12, 0);
            } catch (IllegalStateException filled) {
                continue;
            }
        }
    }

    private static void mostClosings() {
        TubeDesk desk = Plans.ring(1, 9);
        desk.send(0, 1, 0);
        boolean on = true;
        for (int i = 0; i < 480; i++) {
            Check.due("close(1, " + on + ")", true, desk.close(1, on));
            Check.due("ahead(0, 0)", on ? 1 : 0, desk.ahead(0, 0));
            on = !on;
        }
        Check.due("tick(100)", 3, desk.tick(100));
    }
}
