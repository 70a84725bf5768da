/** Plans that several tests use. */
final class Plans {
    static final int WAITING = 0;
    static final int MOVING = 1;
    static final int IN_BAY = 2;
    static final int ARRIVED = 3;
    static final int STUCK = 4;
    static final int TAKEN = 5;

    private Plans() {
    }

    /** Zone 0 alone: stations 0 .. 3 at nodes 1 .. 4, whose tubes to the root take 1 .. 4 ticks. Not sealed. */
    static TubeDesk openStar() {
        TubeDesk desk = new TubeDesk();
        for (int node = 1; node <= 4; node++) {
            desk.tube(0, node, 0, node);
            desk.station(node - 1, 0, node);
        }
        return desk;
    }

    static TubeDesk star() {
        return sealed(openStar());
    }

    /**
     * Zones 0, 1, 2 in a row, joined by bays 5 and 3; stations 4 * zone .. 4 * zone + 3 in each.
     * All tubes take 1 tick and hang at the root, so that each path takes 4.
     */
    static TubeDesk row() {
        TubeDesk desk = new TubeDesk();
        for (int zone = 0; zone < 3; zone++) {
            for (int node = 1; node <= 6; node++) {
                desk.tube(zone, node, 0, 1);
            }
            for (int i = 0; i < 4; i++) {
                desk.station(4 * zone + i, zone, i + 1);
            }
        }
        desk.bay(5, 0, 6, 1, 5);
        desk.bay(3, 1, 6, 2, 5);
        return sealed(desk);
    }

    /**
     * Station 0 in zone 0 and station 1 in zone 3; by zone 1 go bays 0 and 3, by zone 2 go bays 1 and 2.
     * The tubes of zone 1 take 'ticks1', those of zone 2 'ticks2', all others 1.
     */
    static TubeDesk ring(int ticks1, int ticks2) {
        TubeDesk desk = new TubeDesk();
        for (int zone = 0; zone < 4; zone++) {
            int ticks = zone == 1 ? ticks1 : zone == 2 ? ticks2 : 1;
            for (int node = 1; node <= 3; node++) {
                desk.tube(zone, node, 0, ticks);
            }
        }
        desk.station(0, 0, 1);
        desk.station(1, 3, 1);
        desk.bay(0, 0, 2, 1, 1);
        desk.bay(1, 2, 1, 0, 3);
        desk.bay(2, 2, 2, 3, 3);
        desk.bay(3, 3, 2, 1, 2);
        return sealed(desk);
    }

    /**
     * All that there may be: five zones with nine leaves below the root, twelve stations and six bays. All tubes
     * take 1 tick. Station s stands in zone s % 5 at node 1 + s / 5; bays 0 .. 3 join zone 0 with zones 1 .. 4,
     * bay 4 joins zones 1 and 2, bay 5 joins 3 and 4.
     */
    static TubeDesk full() {
        TubeDesk desk = new TubeDesk();
        for (int zone = 0; zone < 5; zone++) {
            for (int node = 1; node <= 9; node++) {
                desk.tube(zone, node, 0, 1);
            }
        }
        for (int s = 0; s < 12; s++) {
            desk.station(s, s % 5, 1 + s / 5);
        }
        for (int b = 0; b < 4; b++) {
            desk.bay(b, 0, 9 - b, b + 1, 9);
        }
        desk.bay(4, 1, 8, 2, 8);
        desk.bay(5, 3, 8, 4, 8);
        return sealed(desk);
    }

    /** The nodes 1 .. last of a zone below its root, but for one of them. Not sealed. */
    static TubeDesk nodesOfZone(int zone, int last, int without) {
        TubeDesk desk = new TubeDesk();
        for (int node = 1; node <= last; node++) {
            if (node != without) {
                desk.tube(zone, node, 0, 1);
            }
        }
        return desk;
    }

    static TubeDesk sealed(TubeDesk desk) {
        if (desk.seal() != 0) {
            throw new AssertionError("the plan does not seal");
        }
        return desk;
    }
}
