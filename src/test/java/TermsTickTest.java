/** The document's "Terms": what a tick does, at its edges. */
final class TermsTickTest {
    public static void main(String[] args) {
        oneCarrierInAZone();
        ranksAtTheirEdges();
        equalRanksByNumber();
        rankInABayGoesOn();
        sticksNotWhereABaysJobBegan();
        sticksAtTheBaysEnd();
        sticksInAClosedZone();
        sticksAgainAtTheNextNode();
        oneTickSticks();
        manyTicksAreOneByOne();
        waysWithClosedZones();
        Check.end();
    }

    private static void oneCarrierInAZone() {
        TubeDesk desk = Plans.star();
        desk.send(0, 1, 0);
        desk.send(1, 0, 0);
        Check.due("one begins", 1, desk.tick(5));
        Check.due("the other one waits", Plans.WAITING, desk.job(1, 0));
        Check.due("it begins in the tick in which the first one arrives", 1, desk.tick(1));
        Check.due("arrived", 6, desk.job(0, 5));
        Check.due("moves", Plans.MOVING, desk.job(1, 0));
    }

    /** A job of priority 0 is sent at 0, one of 'priority' just before both may begin. */
    private static void ranksAtTheirEdges() {
        for (int priority = 1; priority <= 3; priority++) {
            for (int early = 0; early <= 1; early++) {
                TubeDesk desk = Plans.star();
                desk.close(0, true);
                desk.send(0, 3, 0);
                int moment = 20 * priority - early;
                desk.tick(moment - 1);
                desk.send(1, 3, priority);
                Check.due("rank at " + (moment - 1), priority - 1, desk.job(0, 2));
                desk.close(0, false);
                desk.tick(1);
                Check.due("rank at " + moment, priority - early, desk.job(0, 2));
                Check.due("first at " + moment, early == 1 ? Plans.MOVING : Plans.WAITING, desk.job(1, 0));
                Check.due("other at " + moment, early == 0 ? Plans.MOVING : Plans.WAITING, desk.job(0, 0));
            }
        }
    }

    private static void equalRanksByNumber() {
        TubeDesk desk = Plans.star();
        desk.send(3, 0, 2);
        desk.send(1, 0, 2);
        desk.send(0, 1, 2);
        desk.tick(1);
        Check.due("the least number, not the least station", Plans.MOVING, desk.job(0, 0));
        desk.tick(7);
        Check.due("the next one", Plans.MOVING, desk.job(1, 0));
    }

    /** A bay's job and a slot's job of the same zone are compared by rank, then by number. */
    private static void rankInABayGoesOn() {
        for (int late = 0; late <= 1; late++) {
            TubeDesk desk = Plans.row();
            desk.close(1, true);
            desk.send(0, 4, 0);
            desk.tick(18 + late);
            desk.send(5, 6, 1);
            desk.close(1, false);
            desk.tick(1);
            Check.due("in the bay", late == 1 ? Plans.MOVING : Plans.IN_BAY, desk.job(0, 0));
            Check.due("in the slot", late == 1 ? Plans.WAITING : Plans.MOVING, desk.job(1, 0));
        }
    }

    private static void sticksNotWhereABaysJobBegan() {
        TubeDesk desk = Plans.row();
        desk.stick(1, 5, true);
        desk.send(0, 4, 0);
        desk.tick(9);
        Check.due("arrived", 9, desk.job(0, 5));
    }

    private static void sticksAtTheBaysEnd() {
        TubeDesk desk = Plans.row();
        desk.stick(0, 6, true);
        desk.send(0, 4, 0);
        desk.tick(4);
        Check.due("a tick before", Plans.MOVING, desk.job(0, 0));
        desk.tick(1);
        Check.due("stuck", Plans.STUCK, desk.job(0, 0));
        Check.due("at the bay's end", 6, desk.stuck(0, 1));
        Check.due("behind the root", 0, desk.stuck(0, 0));
        Check.due("zones left", 2, desk.job(0, 4));
        desk.close(1, true);
        desk.stick(0, 6, false);
        desk.tick(1);
        Check.due("in the bay", Plans.IN_BAY, desk.job(0, 0));
        Check.due("which", 5, desk.job(0, 1));
        Check.due("gone", 0, desk.job(0, 3));
    }

    private static void sticksInAClosedZone() {
        TubeDesk desk = Plans.star();
        desk.stick(0, 0, true);
        desk.send(0, 1, 0);
        desk.send(1, 0, 0);
        desk.tick(1);
        desk.close(0, true);
        desk.tick(1);
        Check.due("stuck", Plans.STUCK, desk.job(0, 0));
        desk.stick(0, 0, false);
        desk.tick(1);
        Check.due("moves", Plans.MOVING, desk.job(0, 0));
        desk.tick(4);
        Check.due("arrived", 7, desk.job(0, 5));
        Check.due("nothing begins", Plans.WAITING, desk.job(1, 0));
    }

    private static void sticksAgainAtTheNextNode() {
        TubeDesk desk = Plans.star();
        desk.stick(0, 0, true);
        desk.stick(0, 2, true);
        desk.send(0, 1, 0);
        desk.tick(2);
        Check.due("at the root", 0, desk.stuck(0, 1));
        Check.due("behind its slot's node", 1, desk.stuck(0, 0));
        desk.stick(0, 0, false);
        desk.tick(4);
        Check.due("moves", Plans.MOVING, desk.job(0, 0));
        desk.stick(0, 0, true);
        desk.tick(1);
        Check.due("at the goal", 2, desk.stuck(0, 1));
        Check.due("behind the root", 0, desk.stuck(0, 0));
        Check.due("gone", 5, desk.job(0, 3));
        desk.stick(0, 2, false);
        desk.tick(1);
        Check.due("arrived", 8, desk.job(0, 5));
    }

    /** A node that sticks for one tick only holds a carrier that comes in it, and costs it one tick. */
    private static void oneTickSticks() {
        for (int begin = 2; begin <= 6; begin++) {
            TubeDesk desk = Plans.row();
            desk.send(0, 1, 0);
            desk.tick(begin - 1);
            desk.stick(0, 0, true);
            desk.tick(1);
            desk.stick(0, 0, false);
            desk.tick(10);
            Check.due("arrived, stuck at " + begin, begin == 2 ? 6 : 5, desk.job(0, 5));
        }
    }

    private static void manyTicksAreOneByOne() {
        TubeDesk slow = Plans.full();
        TubeDesk quick = Plans.full();
        for (int s = 0; s < 12; s++) {
            slow.send(s, (s + 5) % 12, s % 4);
            quick.send(s, (s + 5) % 12, s % 4);
        }
        int begun = 0;
        for (int i = 0; i < 100; i++) {
            begun += slow.tick(1);
        }
        Check.due("tick(100)", begun, quick.tick(100));
        for (int j = 0; j < 12; j++) {
            for (int what = 0; what <= 5; what++) {
                Check.due("job(" + j + ", " + what + ")", slow.job(j, what), quick.job(j, what));
            }
        }
    }

    /** A way by a closed zone that stays is waited for, before the zone and not sooner. */
    private static void waysWithClosedZones() {
        TubeDesk desk = Plans.row();
        desk.close(2, true);
        desk.send(0, 8, 0);
        Check.due("it goes as far as it can", 2, desk.tick(100));
        Check.due("bay", 3, desk.job(0, 1));
        desk.close(2, false);
        Check.due("then on", 1, desk.tick(1));
        desk.tick(4);
        Check.due("arrived", 105, desk.job(0, 5));
    }
}
