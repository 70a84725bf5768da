import java.util.ArrayList;
import java.util.NoSuchElementException;

/** The control of a building's tubes. What it promises stands in the document, DOC.md. */
public final class TubeDesk {
    private static final int ZONES = 5;
    private static final int NODES = 10;
    private static final int STATIONS = 12;
    private static final int BAYS = 6;
    private static final int JOBS = 40;

    private static final int LONGEST_TUBE = 9;
    private static final int HIGHEST_PRIORITY = 3;
    private static final int MOST_TICKS_A_CALL = 100;

    private static final int BASKET_PLACES = 2;
    private static final int BAY_PLACES = 3;
    /** The last place of a bay is kept for jobs that need no other bay behind it. */
    private static final int BAY_PLACES_FOR_A_LONG_WAY = 2;

    private static final int NODE_TIME = 2;
    private static final int BAY_TIME = 3;
    private static final int TICKS_A_RANK = 20;

    private static final int WAITING = 0;
    private static final int MOVING = 1;
    private static final int IN_BAY = 2;
    private static final int ARRIVED = 3;
    private static final int STUCK = 4;
    private static final int TAKEN = 5;

    private final Zone[] zones = new Zone[ZONES];
    private final Station[] stations = new Station[STATIONS];
    private final Bay[] bays = new Bay[BAYS];
    private final ArrayList<Job> jobs = new ArrayList<Job>();
    /** What the last search found; one object for all searches, so that they make none. */
    private final Way best = new Way();
    private boolean sealed;
    private int moment;
    private int pathsBegun;

    public TubeDesk() {
        for (int z = 0; z < ZONES; z++) {
            Zone zone = new Zone(z);
            zone.nodes[0] = new Node(zone, 0, null, 0);
            zones[z] = zone;
        }
    }

    public void tube(int zone, int node, int parent, int ticks)
            throws IllegalArgumentException, IllegalStateException {
        if (node < 1 || node >= NODES || ticks < 1 || ticks > LONGEST_TUBE) {
            throw new IllegalArgumentException("no such node or ticks");
        }
        Node above = nodeOf(zone, parent);
        if (above == null) {
            throw new IllegalArgumentException("the zone or the parent is not there");
        }
        if (sealed || above.zone.nodes[node] != null) {
            throw new IllegalStateException("sealed, or the node is there");
        }
        above.zone.nodes[node] = new Node(above.zone, node, above, ticks);
        above.leaf = false;
    }

    public void station(int s, int zone, int node) throws IllegalArgumentException, IllegalStateException {
        Node home = nodeOf(zone, node);
        if (s < 0 || s >= STATIONS || home == null) {
            throw new IllegalArgumentException("no such station or node");
        }
        if (sealed || stations[s] != null || home.used) {
            throw new IllegalStateException("sealed, or the station or something at the node is there");
        }
        stations[s] = new Station(s, home);
        home.used = true;
    }

    public void bay(int b, int zoneA, int nodeA, int zoneB, int nodeB)
            throws IllegalArgumentException, IllegalStateException {
        Node endA = nodeOf(zoneA, nodeA);
        Node endB = nodeOf(zoneB, nodeB);
        if (b < 0 || b >= BAYS || endA == null || endB == null || zoneA == zoneB) {
            throw new IllegalArgumentException("no such bay or nodes, or one zone");
        }
        if (sealed || bays[b] != null || endA.used || endB.used) {
            throw new IllegalStateException("sealed, or the bay or something at a node is there");
        }
        bays[b] = new Bay(b, endA, endB);
        endA.used = true;
        endB.used = true;
    }

    public int seal() throws IllegalStateException {
        if (sealed) {
            throw new IllegalStateException("sealed");
        }
        int fault = faultOfPlan();
        sealed = fault == 0;
        return fault;
    }

    public int send(int from, int to, int priority) throws IllegalArgumentException, IllegalStateException {
        Station source = stationOf(from);
        Station goal = stationOf(to);
        if (source == null || goal == null || from == to || priority < 0 || priority > HIGHEST_PRIORITY) {
            throw new IllegalArgumentException("no such stations or priority, or one station");
        }
        if (!sealed || source.slotFilled || jobs.size() >= JOBS) {
            throw new IllegalStateException("not sealed, a filled slot, or no more jobs");
        }
        Job added = new Job(jobs.size(), source, goal, priority, moment);
        if (!findWay(source.node, goal.node, false)) {
            findWay(source.node, goal.node, true);
        }
        added.follow(best);
        jobs.add(added);
        source.slotFilled = true;
        source.node.zone.waiting.add(added);
        return added.number;
    }

    public int take(int s) throws IllegalArgumentException, NoSuchElementException {
        Station station = stationOf(s);
        if (station == null) {
            throw new IllegalArgumentException("no such station");
        }
        Job first = firstInBasket(station);
        if (first == null) {
            throw new NoSuchElementException("nothing in the basket");
        }
        first.state = TAKEN;
        station.claimed--;
        return first.number;
    }

    public int tick(int n) throws IllegalArgumentException, IllegalStateException {
        if (n < 1 || n > MOST_TICKS_A_CALL) {
            throw new IllegalArgumentException("no such number of ticks");
        }
        if (!sealed) {
            throw new IllegalStateException("not sealed");
        }
        int before = pathsBegun;
        for (int i = 0; i < n; i++) {
            moment++;
            moveCarriers();
            beginPaths();
        }
        return pathsBegun - before;
    }

    public void stick(int zone, int node, boolean on) throws IllegalArgumentException, IllegalStateException {
        Node place = nodeOf(zone, node);
        if (place == null) {
            throw new IllegalArgumentException("no such node");
        }
        if (!sealed) {
            throw new IllegalStateException("not sealed");
        }
        place.sticks = on;
    }

    public boolean close(int zone, boolean on) throws IllegalArgumentException, IllegalStateException {
        Zone changed = zoneOf(zone);
        if (changed == null) {
            throw new IllegalArgumentException("no such zone");
        }
        if (!sealed) {
            throw new IllegalStateException("not sealed");
        }
        if (changed.closed == on) {
            return false;
        }
        changed.closed = on;
        planAnew();
        return true;
    }

    public int job(int j, int what) throws NoSuchElementException, IllegalArgumentException {
        Job asked = jobOf(j);
        if (asked == null) {
            throw new NoSuchElementException("no such job");
        }
        switch (what) {
            case 0:
                return asked.state;
            case 1:
                return asked.place;
            case 2:
                return asked.rankAt(moment);
            case 3:
                return asked.trip == null ? 0 : asked.trip.gone;
            case 4:
                return asked.zonesLeft();
            case 5:
                return asked.arrivedAt;
            default:
                throw new IllegalArgumentException("no such what");
        }
    }

    public int ahead(int j, int i) throws NoSuchElementException, IllegalArgumentException {
        Job asked = jobOf(j);
        if (asked == null) {
            throw new NoSuchElementException("no such job");
        }
        if (i < 0) {
            throw new IllegalArgumentException("below 0");
        }
        Bay found = i == 0 ? asked.nextBay : i == 1 ? asked.laterBay : null;
        return found == null ? -1 : found.number;
    }

    public int stuck(int j, int part) throws NoSuchElementException, IllegalArgumentException {
        Job asked = jobOf(j);
        if (asked == null || asked.state != STUCK || asked.trip == null) {
            throw new NoSuchElementException("no such job, or it is not stuck");
        }
        if (part != 0 && part != 1) {
            throw new IllegalArgumentException("no such part");
        }
        return part == 1 ? asked.trip.coming.number : asked.trip.passed.number;
    }

    public int time(int from, int to) throws IllegalArgumentException, IllegalStateException {
        Station source = stationOf(from);
        Station goal = stationOf(to);
        if (source == null || goal == null || from == to) {
            throw new IllegalArgumentException("no such stations, or one station");
        }
        if (!sealed) {
            throw new IllegalStateException("not sealed");
        }
        return findWay(source.node, goal.node, false) ? best.cost : -1;
    }

    public int count(int what) {
        switch (what) {
            case 0:
                return moment;
            case 1:
                return jobs.size();
            case 2:
                return jobs.size() - jobsInState(TAKEN);
            case 3:
                return jobsInState(MOVING);
            case 4:
                return jobsInState(STUCK);
            case 5:
                return pathsBegun;
            default:
                return -1;
        }
    }

    private Zone zoneOf(int zone) {
        return zone < 0 || zone >= ZONES ? null : zones[zone];
    }

    private Node nodeOf(int zone, int node) {
        Zone home = zoneOf(zone);
        return home == null || node < 0 || node >= NODES ? null : home.nodes[node];
    }

    private Station stationOf(int s) {
        return s < 0 || s >= STATIONS ? null : stations[s];
    }

    private Job jobOf(int j) {
        return j < 0 || j >= jobs.size() ? null : jobs.get(j);
    }

    private int jobsInState(int state) {
        int found = 0;
        for (int j = 0; j < jobs.size(); j++) {
            if (jobs.get(j).state == state) {
                found++;
            }
        }
        return found;
    }

    private Job firstInBasket(Station station) {
        Job first = null;
        for (int j = 0; j < jobs.size(); j++) {
            Job seen = jobs.get(j);
            if (seen.state == ARRIVED && seen.goal == station
                    && (first == null || seen.arrivedAt < first.arrivedAt)) {
                first = seen;
            }
        }
        return first;
    }

    private int faultOfPlan() {
        if (stationsThere() < 2) {
            return 1;
        }
        if (!allEndsAreLeaves()) {
            return 2;
        }
        return allStationsAreJoined() ? 0 : 3;
    }

    private int stationsThere() {
        int there = 0;
        for (Station station : stations) {
            if (station != null) {
                there++;
            }
        }
        return there;
    }

    private boolean allEndsAreLeaves() {
        for (Station station : stations) {
            if (station != null && !station.node.leaf) {
                return false;
            }
        }
        for (Bay bay : bays) {
            if (bay != null && !(bay.endA.leaf && bay.endB.leaf)) {
                return false;
            }
        }
        return true;
    }

    private boolean allStationsAreJoined() {
        for (Station from : stations) {
            for (Station to : stations) {
                if (from != null && to != null && from != to && !findWay(from.node, to.node, true)) {
                    return false;
                }
            }
        }
        return true;
    }

    /** Leaves the best way in 'best'; the answer tells whether there is one. */
    private boolean findWay(Node from, Node goal, boolean closedToo) {
        best.forget();
        if (from.zone.closed && !closedToo) {
            return false;
        }
        if (from.zone == goal.zone) {
            best.offer(pathTime(from, goal), null, null);
            return true;
        }
        for (Bay first : bays) {
            if (first != null && first.leadsOnFrom(from, closedToo)) {
                tryWaysBy(first, from, goal, closedToo);
            }
        }
        return best.cost >= 0;
    }

    /** The zones of what is offered here are all different, since the goal is never in the first one. */
    private void tryWaysBy(Bay first, Node from, Node goal, boolean closedToo) {
        int spent = pathTime(from, first.endIn(from.zone)) + BAY_TIME;
        Node entry = first.endBehind(from.zone);
        if (entry.zone == goal.zone) {
            best.offer(spent + pathTime(entry, goal), first, null);
            return;
        }
        for (Bay second : bays) {
            if (second == null || !second.leadsOnFrom(entry, closedToo)) {
                continue;
            }
            Node last = second.endBehind(entry.zone);
            if (last.zone == goal.zone) {
                int middle = pathTime(entry, second.endIn(entry.zone)) + BAY_TIME;
                best.offer(spent + middle + pathTime(last, goal), first, second);
            }
        }
    }

    /** Both ends climb until they meet; the deeper one first, so that neither climbs past the other. */
    private static int pathTime(Node from, Node to) {
        int ticks = 0;
        int tubes = 0;
        Node a = from;
        Node b = to;
        while (a != b && a != null && b != null) {
            if (a.depth >= b.depth) {
                ticks += a.ticks;
                a = a.parent;
            } else {
                ticks += b.ticks;
                b = b.parent;
            }
            tubes++;
        }
        return ticks + NODE_TIME * (tubes - 1);
    }

    private void planAnew() {
        for (int j = 0; j < jobs.size(); j++) {
            Job waiting = jobs.get(j);
            boolean rests = waiting.state == WAITING || waiting.state == IN_BAY;
            if (rests && findWay(waiting.start, waiting.goal.node, false)) {
                waiting.follow(best);
            }
        }
    }

    private void moveCarriers() {
        for (Zone zone : zones) {
            Trip trip = zone.trip;
            if (trip != null && trip.isThereAfterTick()) {
                zone.trip = null;
                arrive(trip.job);
            }
        }
    }

    private void arrive(Job arriving) {
        arriving.trip = null;
        Bay reached = arriving.nextBay;
        if (reached == null) {
            arriving.state = ARRIVED;
            arriving.place = arriving.goal.number;
            arriving.arrivedAt = moment;
        } else {
            arriving.enter(reached);
            arriving.start.zone.waiting.add(arriving);
        }
    }

    private void beginPaths() {
        for (Zone zone : zones) {
            if (zone.trip == null && !zone.closed) {
                beginPathIn(zone);
            }
        }
    }

    private void beginPathIn(Zone zone) {
        int pick = zone.firstToBegin(moment);
        if (pick < 0 || pick >= zone.waiting.size()) {
            return;
        }
        Job begins = zone.waiting.remove(pick);
        begins.leavePlace();
        begins.claimNextPlace();
        zone.trip = new Trip(begins, begins.start, begins.endOfPath());
        begins.trip = zone.trip;
        begins.state = MOVING;
        begins.place = zone.number;
        pathsBegun++;
    }

    private static final class Zone {
        final int number;
        final Node[] nodes = new Node[NODES];
        /** The jobs in slots and bays whose next path is in this zone. */
        final ArrayList<Job> waiting = new ArrayList<Job>();
        /** Of the one carrier that moves or sticks here; null if there is none. */
        Trip trip;
        boolean closed;

        Zone(int number) {
            this.number = number;
        }

        /** Where in the waiting row the job stands that begins now; -1 if none can. */
        int firstToBegin(int moment) {
            int pick = -1;
            Job picked = null;
            for (int i = 0; i < waiting.size(); i++) {
                Job seen = waiting.get(i);
                if (seen.hasRoom() && (picked == null || seen.goesBefore(picked, moment))) {
                    pick = i;
                    picked = seen;
                }
            }
            return pick;
        }
    }

    /** A node with the tube to its parent; the root has neither. */
    private static final class Node {
        final Zone zone;
        final int number;
        final Node parent;
        final int ticks;
        final int depth;
        boolean leaf = true;
        /** A station or a bay's end is here. */
        boolean used;
        boolean sticks;

        Node(Zone zone, int number, Node parent, int ticks) {
            this.zone = zone;
            this.number = number;
            this.parent = parent;
            this.ticks = ticks;
            this.depth = parent == null ? 0 : parent.depth + 1;
        }

        /** The node that comes next on the path from here to the goal. */
        Node nextTo(Node goal) {
            for (Node below = goal; below != null; below = below.parent) {
                if (below.parent == this) {
                    return below;
                }
            }
            return parent == null ? this : parent;
        }

        int ticksTo(Node neighbour) {
            return neighbour.parent == this ? neighbour.ticks : ticks;
        }
    }

    private static final class Station {
        final int number;
        final Node node;
        boolean slotFilled;
        /** Jobs in the basket or on their path to it. */
        int claimed;

        Station(int number, Node node) {
            this.number = number;
            this.node = node;
        }
    }

    private static final class Bay {
        final int number;
        final Node endA;
        final Node endB;
        /** Jobs in the bay or on their path to it. */
        int claimed;

        Bay(int number, Node endA, Node endB) {
            this.number = number;
            this.endA = endA;
            this.endB = endB;
        }

        Node endIn(Zone zone) {
            return endA.zone == zone ? endA : endB;
        }

        Node endBehind(Zone zone) {
            return endA.zone == zone ? endB : endA;
        }

        /** A job in this bay does not come back to it: no path goes from a leaf to the same leaf. */
        boolean leadsOnFrom(Node from, boolean closedToo) {
            boolean joins = endA.zone == from.zone || endB.zone == from.zone;
            return joins && endIn(from.zone) != from && (closedToo || !endBehind(from.zone).zone.closed);
        }
    }

    /** The best of the ways that were offered. */
    private static final class Way {
        /** Its time; -1 as long as there is no way. */
        int cost = -1;
        Bay first;
        Bay second;

        void forget() {
            cost = -1;
            first = null;
            second = null;
        }

        /** Ways are offered by their bays upward, so of equal ones the earlier one stays. */
        void offer(int offeredCost, Bay offeredFirst, Bay offeredSecond) {
            if (cost < 0 || offeredCost < cost) {
                cost = offeredCost;
                first = offeredFirst;
                second = offeredSecond;
            }
        }
    }

    private static final class Job {
        final int number;
        final Station source;
        final Station goal;
        final int priority;
        final int sentAt;
        int state = WAITING;
        /** A station, a bay or a zone, as the state tells. */
        int place;
        /** Where its next path begins, or the one that it is on has begun. */
        Node start;
        /** The bay it is in, or left last; null before the first one. */
        Bay bay;
        Bay nextBay;
        Bay laterBay;
        /** While it moves or sticks, else null. */
        Trip trip;
        int arrivedAt = -1;

        Job(int number, Station source, Station goal, int priority, int sentAt) {
            this.number = number;
            this.source = source;
            this.goal = goal;
            this.priority = priority;
            this.sentAt = sentAt;
            this.place = source.number;
            this.start = source.node;
        }

        void follow(Way way) {
            nextBay = way.first;
            laterBay = way.second;
        }

        int rankAt(int moment) {
            return priority + (moment - sentAt) / TICKS_A_RANK;
        }

        boolean goesBefore(Job other, int moment) {
            int rank = rankAt(moment);
            int otherRank = other.rankAt(moment);
            return rank != otherRank ? rank > otherRank : number < other.number;
        }

        int zonesLeft() {
            if (state == ARRIVED || state == TAKEN) {
                return 0;
            }
            return nextBay == null ? 1 : laterBay == null ? 2 : 3;
        }

        boolean hasRoom() {
            if (nextBay == null) {
                return goal.claimed < BASKET_PLACES;
            }
            return nextBay.claimed < (laterBay == null ? BAY_PLACES : BAY_PLACES_FOR_A_LONG_WAY);
        }

        void claimNextPlace() {
            if (nextBay == null) {
                goal.claimed++;
            } else {
                nextBay.claimed++;
            }
        }

        void leavePlace() {
            if (bay == null) {
                source.slotFilled = false;
            } else {
                bay.claimed--;
            }
        }

        Node endOfPath() {
            return nextBay == null ? goal.node : nextBay.endIn(start.zone);
        }

        void enter(Bay reached) {
            state = IN_BAY;
            place = reached.number;
            start = reached.endBehind(start.zone);
            bay = reached;
            nextBay = laterBay;
            laterBay = null;
        }
    }

    /** One job's run along one path. */
    private static final class Trip {
        final Job job;
        final Node goal;
        /** The nodes behind and before the carrier; it is stuck at the latter. */
        Node passed;
        Node coming;
        int gone;
        /** The ticks behind which it comes to the node before it. */
        int due;

        Trip(Job job, Node start, Node goal) {
            this.job = job;
            this.goal = goal;
            this.passed = start;
            this.coming = start.nextTo(goal);
            this.due = start.ticksTo(coming);
        }

        /** One tick; the answer tells whether the job is at its next place. */
        boolean isThereAfterTick() {
            if (job.state != STUCK) {
                gone++;
                if (gone < due) {
                    return false;
                }
            }
            if (coming.sticks) {
                job.state = STUCK;
                return false;
            }
            if (coming == goal) {
                return true;
            }
            job.state = MOVING;
            passNode();
            return false;
        }

        private void passNode() {
            Node following = coming.nextTo(goal);
            due += NODE_TIME + coming.ticksTo(following);
            passed = coming;
            coming = following;
        }
    }
}
