/**
 * The document's "Terms": the places of a slot, a basket and a bay, and when there is room ahead. All plans here
 * are Plans.row(): each path takes 4 ticks, bay 5 joins zones 0 and 1, bay 3 joins zones 1 and 2.
 */
final class TermsRoomTest {
    public static void main(String[] args) {
        slotHoldsOne();
        basketHoldsTwo();
        basketCountsBothZones();
        bayHoldsThreeFromBothSides();
        longWayWantsFewerThanTwo();
        lastBayOfALongWayHoldsThree();
        onTheirPathCounts();
        stuckOnItsPathCounts();
        leftInTheSameTick();
        comesBeforeItLeaves();
        roomBeforeRank();
        Check.end();
    }

    private static void dueStates(String when, TubeDesk desk, int... want) {
        for (int j = 0; j < want.length; j++) {
            Check.due(when + ", job(" + j + ", 0) at " + desk.count(0), want[j], desk.job(j, 0));
        }
    }

    private static void slotHoldsOne() {
        TubeDesk desk = Plans.row();
        for (int s = 0; s < 12; s++) {
            int filled = s;
            Check.due("send from " + s, s, desk.send(s, (s + 1) % 12, 0));
            Check.badState("send from " + s + " again", () -> desk.send(filled, (filled + 2) % 12, 0));
        }
        desk.tick(1);
        for (int s = 0; s < 12; s++) {
            int again = s;
            if (s % 4 == 0) {
                Check.due("the slot is free when its job moves", 12 + s / 4, desk.send(s, (s + 1) % 12, 0));
            } else {
                Check.badState("the slot is not free", () -> desk.send(again, (again + 1) % 12, 0));
            }
        }
    }

    private static void basketHoldsTwo() {
        TubeDesk desk = Plans.row();
        desk.send(0, 3, 0);
        desk.send(1, 3, 0);
        desk.send(2, 3, 0);
        desk.tick(5);
        dueStates("one arrived: room for one more", desk, Plans.ARRIVED, Plans.MOVING, Plans.WAITING);
        desk.tick(100);
        dueStates("two arrived: room for no more", desk, Plans.ARRIVED, Plans.ARRIVED, Plans.WAITING);
        Check.due("take(3)", 0, desk.take(3));
        dueStates("until the tick", desk, Plans.TAKEN, Plans.ARRIVED, Plans.WAITING);
        desk.tick(1);
        dueStates("one taken: room for one more", desk, Plans.TAKEN, Plans.ARRIVED, Plans.MOVING);
        desk.send(0, 3, 0);
        Check.due("take(3)", 1, desk.take(3));
        desk.tick(4);
        dueStates("one arrived of three", desk, Plans.TAKEN, Plans.TAKEN, Plans.ARRIVED, Plans.MOVING);
    }

    private static void basketCountsBothZones() {
        TubeDesk desk = Plans.row();
        desk.send(0, 4, 0);
        desk.send(5, 4, 1);
        desk.send(6, 4, 1);
        desk.tick(100);
        dueStates("two from its own zone", desk, Plans.IN_BAY, Plans.ARRIVED, Plans.ARRIVED);
        desk.send(1, 7, 0);
        desk.tick(100);
        Check.due("another basket has room", Plans.ARRIVED, desk.job(3, 0));
        desk.take(4);
        Check.due("tick(1)", 1, desk.tick(1));
        dueStates("now from the bay", desk, Plans.MOVING, Plans.TAKEN, Plans.ARRIVED);
    }

    private static void bayHoldsThreeFromBothSides() {
        TubeDesk desk = Plans.row();
        desk.stick(0, 1, true);
        desk.send(4, 0, 0);
        Check.due("through the bay", 2, desk.tick(9));
        dueStates("zone 0 is held by the first one", desk, Plans.STUCK);
        for (int s = 4; s < 8; s++) {
            desk.send(s, s - 4, 0);
        }
        Check.due("three of four go into the bay", 3, desk.tick(16));
        dueStates("zone 0 is held", desk, Plans.STUCK, Plans.IN_BAY, Plans.IN_BAY, Plans.IN_BAY, Plans.WAITING);
        desk.send(1, 4, 3);
        for (int j = 1; j <= 4; j++) {
            Check.due("a lower rank than that of the job in zone 0", 0, desk.job(j, 2));
        }
        desk.stick(0, 1, false);
        desk.tick(1);
        dueStates("the bay is full from zone 0's side too", desk, Plans.ARRIVED, Plans.MOVING, Plans.IN_BAY,
            Plans.IN_BAY, Plans.MOVING, Plans.WAITING);
    }

    private static void longWayWantsFewerThanTwo() {
        TubeDesk desk = Plans.row();
        desk.close(1, true);
        desk.send(0, 4, 0);
        Check.due("one is in the bay", 1, desk.tick(10));
        desk.send(1, 8, 0);
        Check.due("fewer than two: a long way begins", 1, desk.tick(10));
        desk.send(2, 9, 3);
        Check.due("two: no long way begins", 0, desk.tick(10));
        desk.send(3, 5, 0);
        Check.due("two: a short way begins", 1, desk.tick(10));
        dueStates("three are in the bay", desk, Plans.IN_BAY, Plans.IN_BAY, Plans.WAITING, Plans.IN_BAY);
        desk.send(0, 6, 3);
        Check.due("three: no short way begins", 0, desk.tick(10));
    }

    private static void lastBayOfALongWayHoldsThree() {
        TubeDesk desk = Plans.row();
        desk.close(2, true);
        for (int s = 0; s < 4; s++) {
            desk.send(s, 8 + s, 0);
        }
        Check.due("three by two paths, one by one path", 7, desk.tick(100));
        for (int j = 0; j < 3; j++) {
            Check.due("in bay 3", 3, desk.job(j, 1));
        }
        Check.due("in bay 5", 5, desk.job(3, 1));
        dueStates("all in bays", desk, Plans.IN_BAY, Plans.IN_BAY, Plans.IN_BAY, Plans.IN_BAY);
    }

    private static void onTheirPathCounts() {
        TubeDesk desk = Plans.row();
        desk.close(2, true);
        desk.send(4, 8, 0);
        desk.send(5, 9, 0);
        desk.tick(5);
        dueStates("one in bay 3, one on its path to it", desk, Plans.IN_BAY, Plans.MOVING);
        desk.send(8, 0, 3);
        desk.send(9, 6, 2);
        desk.close(2, false);
        desk.tick(1);
        dueStates("no long way, but a short one", desk, Plans.IN_BAY, Plans.MOVING, Plans.WAITING, Plans.MOVING);
        desk.tick(4);
        dueStates("three are in the bay, and one of them leaves", desk, Plans.MOVING, Plans.IN_BAY, Plans.WAITING,
            Plans.MOVING);
        desk.tick(4);
        dueStates("one is in the bay: a long way begins", desk, Plans.ARRIVED, Plans.IN_BAY, Plans.MOVING);
    }

    private static void stuckOnItsPathCounts() {
        TubeDesk desk = Plans.row();
        desk.close(1, true);
        for (int s = 0; s < 3; s++) {
            desk.send(s, 4 + s, 0);
        }
        desk.tick(9);
        desk.stick(0, 6, true);
        desk.tick(4);
        dueStates("two in the bay, one stuck before it", desk, Plans.IN_BAY, Plans.IN_BAY, Plans.STUCK);
        desk.send(7, 3, 3);
        desk.close(1, false);
        desk.tick(1);
        dueStates("no room", desk, Plans.MOVING, Plans.IN_BAY, Plans.STUCK, Plans.WAITING);
        desk.tick(4);
        dueStates("room", desk, Plans.ARRIVED, Plans.IN_BAY, Plans.STUCK, Plans.MOVING);
    }

    private static void leftInTheSameTick() {
        TubeDesk desk = Plans.row();
        desk.close(0, true);
        for (int s = 4; s < 8; s++) {
            desk.send(s, s - 4, 0);
        }
        desk.tick(100);
        dueStates("full", desk, Plans.IN_BAY, Plans.IN_BAY, Plans.IN_BAY, Plans.WAITING);
        desk.close(0, false);
        Check.due("zone 0 is looked at before zone 1", 2, desk.tick(1));
        dueStates("one leaves, one begins", desk, Plans.MOVING, Plans.IN_BAY, Plans.IN_BAY, Plans.MOVING);
    }

    /** What comes to a bay in a tick can leave it in the same one, also into a lower zone. */
    private static void comesBeforeItLeaves() {
        TubeDesk desk = Plans.row();
        desk.send(4, 0, 0);
        Check.due("tick(4)", 1, desk.tick(4));
        Check.due("tick(1)", 1, desk.tick(1));
        Check.due("in zone 0", 0, desk.job(0, 1));
        Check.due("gone", 0, desk.job(0, 3));
    }

    private static void roomBeforeRank() {
        TubeDesk desk = Plans.row();
        desk.send(0, 3, 0);
        desk.send(1, 3, 0);
        desk.tick(9);
        desk.send(0, 3, 3);
        desk.send(1, 2, 0);
        Check.due("tick(1)", 1, desk.tick(1));
        dueStates("the higher rank has no room", desk, Plans.ARRIVED, Plans.ARRIVED, Plans.WAITING, Plans.MOVING);
    }
}
