/** tick: carriers move, then paths begin. */
final class Promise08TickTest {
    public static void main(String[] args) {
        pathTickByTick();
        wayTickByTick();
        higherRankFirst();
        rankGrowsWithAge();
        roomInBasket();
        roomInBay();
        roomInBayForALongWay();
        roomIsClaimedOnTheWay();
        lowerZoneClaimsFirst();
        closedZoneBeginsNothing();
        wrongCalls();
        Check.end();
    }

    private static void pathTickByTick() {
        TubeDesk desk = Plans.star();
        desk.send(0, 1, 0);
        Check.due("tick(1)", 1, desk.tick(1));
        Check.due("job(0, 0)", Plans.MOVING, desk.job(0, 0));
        Check.due("job(0, 3)", 0, desk.job(0, 3));
        for (int gone = 1; gone <= 4; gone++) {
            Check.due("tick(1)", 0, desk.tick(1));
            Check.due("job(0, 0)", Plans.MOVING, desk.job(0, 0));
            Check.due("job(0, 3)", gone, desk.job(0, 3));
        }
        desk.tick(1);
        Check.due("job(0, 0)", Plans.ARRIVED, desk.job(0, 0));
        Check.due("job(0, 5)", 6, desk.job(0, 5));
        Check.due("count(0)", 6, desk.count(0));
        Check.due("tick(100)", 0, desk.tick(100));
        Check.due("count(0)", 106, desk.count(0));
    }

    private static void wayTickByTick() {
        TubeDesk desk = Plans.row();
        desk.send(0, 8, 0);
        Check.due("tick(4)", 1, desk.tick(4));
        Check.due("zone", 0, desk.job(0, 1));
        Check.due("it comes to the bay and goes on at once", 1, desk.tick(1));
        Check.due("zone", 1, desk.job(0, 1));
        Check.due("gone", 0, desk.job(0, 3));
        Check.due("tick(4)", 1, desk.tick(4));
        Check.due("zone", 2, desk.job(0, 1));
        desk.tick(4);
        Check.due("arrived", 13, desk.job(0, 5));
    }

    private static void higherRankFirst() {
        TubeDesk desk = Plans.star();
        desk.send(0, 3, 1);
        desk.send(1, 3, 2);
        desk.send(2, 0, 2);
        desk.tick(1);
        Check.due("the lesser number of the highest", Plans.MOVING, desk.job(1, 0));
        Check.due("tick(8)", 1, desk.tick(8));
        Check.due("then the other one of this rank", Plans.MOVING, desk.job(2, 0));
        Check.due("the first one was in the basket", Plans.ARRIVED, desk.job(1, 0));
        Check.due("tick(6)", 1, desk.tick(6));
        Check.due("then the lowest", Plans.MOVING, desk.job(0, 0));
    }

    private static void rankGrowsWithAge() {
        for (int begin = 19; begin <= 20; begin++) {
            TubeDesk desk = Plans.star();
            desk.close(0, true);
            desk.send(0, 3, 0);
            desk.tick(begin - 1);
            desk.send(1, 3, 1);
            desk.close(0, false);
            desk.tick(1);
            Check.due("who begins at " + begin, begin == 20 ? Plans.MOVING : Plans.WAITING, desk.job(0, 0));
            Check.due("and who does not", begin == 20 ? Plans.WAITING : Plans.MOVING, desk.job(1, 0));
        }
    }

    private static void roomInBasket() {
        TubeDesk desk = Plans.star();
        desk.send(0, 3, 3);
        desk.send(1, 3, 3);
        desk.send(2, 3, 3);
        Check.due("tick(40)", 2, desk.tick(40));
        Check.due("job(2, 0)", Plans.WAITING, desk.job(2, 0));
        desk.send(0, 1, 0);
        Check.due("one of lower rank that has room", 1, desk.tick(1));
        Check.due("job(3, 0)", Plans.MOVING, desk.job(3, 0));
    }

    private static void roomInBay() {
        TubeDesk desk = Plans.row();
        desk.close(1, true);
        for (int s = 0; s < 4; s++) {
            desk.send(s, 4 + s, 0);
        }
        Check.due("tick(100)", 3, desk.tick(100));
        for (int j = 0; j < 3; j++) {
            Check.due("in the bay: " + j, Plans.IN_BAY, desk.job(j, 0));
        }
        Check.due("in its slot", Plans.WAITING, desk.job(3, 0));
        desk.close(1, false);
        Check.due("zone 1's job leaves in the tick, behind zone 0", 1, desk.tick(1));
        Check.due("its place is free in the next one", 1, desk.tick(1));
        Check.due("job(3, 0)", Plans.MOVING, desk.job(3, 0));
    }

    private static void roomInBayForALongWay() {
        TubeDesk desk = Plans.row();
        desk.close(1, true);
        desk.send(0, 8, 0);
        desk.send(1, 9, 0);
        desk.send(2, 10, 3);
        Check.due("tick(100)", 2, desk.tick(100));
        Check.due("a long way", Plans.IN_BAY, desk.job(2, 0));
        Check.due("a long way", Plans.IN_BAY, desk.job(0, 0));
        Check.due("no third one", Plans.WAITING, desk.job(1, 0));
        desk.send(3, 4, 0);
        Check.due("a short way has the third place", 1, desk.tick(100));
        Check.due("a short way", Plans.IN_BAY, desk.job(3, 0));
        desk.close(1, false);
        Check.due("one leaves, two are there yet", 1, desk.tick(2));
        Check.due("no room", Plans.WAITING, desk.job(1, 0));
        desk.tick(5);
        Check.due("another one has left", Plans.MOVING, desk.job(1, 0));
    }

    private static void roomIsClaimedOnTheWay() {
        TubeDesk desk = Plans.row();
        desk.close(1, true);
        desk.send(0, 4, 0);
        desk.send(1, 5, 0);
        desk.send(2, 6, 0);
        desk.tick(9);
        Check.due("the third one moves to the bay", Plans.MOVING, desk.job(2, 0));
        desk.send(4, 3, 3);
        desk.close(1, false);
        desk.tick(1);
        Check.due("no room for one from the other side", Plans.WAITING, desk.job(3, 0));
        Check.due("so one of lower rank begins", Plans.MOVING, desk.job(0, 0));
        desk.tick(4);
        Check.due("and has made room", Plans.MOVING, desk.job(3, 0));
    }

    private static void lowerZoneClaimsFirst() {
        TubeDesk desk = Plans.row();
        desk.close(1, true);
        desk.send(0, 4, 0);
        desk.send(1, 5, 0);
        desk.tick(50);
        Check.due("one in the bay", Plans.IN_BAY, desk.job(0, 0));
        Check.due("the other one in the bay", Plans.IN_BAY, desk.job(1, 0));
        desk.close(1, false);
        desk.send(2, 6, 0);
        desk.send(4, 3, 3);
        Check.due("tick(1)", 2, desk.tick(1));
        Check.due("zone 0 has the last place", Plans.MOVING, desk.job(2, 0));
        Check.due("zone 1 has none", Plans.WAITING, desk.job(3, 0));
    }

    private static void closedZoneBeginsNothing() {
        TubeDesk desk = Plans.star();
        desk.send(0, 1, 0);
        desk.tick(1);
        desk.send(1, 0, 0);
        desk.close(0, true);
        Check.due("tick(100)", 0, desk.tick(100));
        Check.due("what moved goes on", 6, desk.job(0, 5));
        Check.due("nothing begins", Plans.WAITING, desk.job(1, 0));
        desk.close(0, false);
        Check.due("tick(1)", 1, desk.tick(1));
    }

    private static void wrongCalls() {
        TubeDesk desk = Plans.openStar();
        Check.badState("not sealed", () -> desk.tick(1));
        Check.badArgument("not sealed, 0", () -> desk.tick(0));
        desk.seal();
        Check.badArgument("tick(0)", () -> desk.tick(0));
        Check.badArgument("tick(-1)", () -> desk.tick(-1));
        Check.badArgument("tick(101)", () -> desk.tick(101));
        Check.badArgument("tick of the lowest", () -> desk.tick(Integer.MIN_VALUE));
        Check.badArgument("tick of the highest", () -> desk.tick(Integer.MAX_VALUE));
        Check.due("count(0)", 0, desk.count(0));
        desk.tick(100);
        Check.due("count(0)", 100, desk.count(0));
    }
}
