import java.util.ArrayList;
import java.util.HashMap;
import java.util.HashSet;
import java.util.List;
import java.util.Map;
import java.util.NoSuchElementException;
import java.util.Set;

/**
 * The document, read word by word, with lists and maps and without regard to speed: nothing is kept that can
 * be counted anew. The desk must answer as this does.
 */
final class PlainModel {
    private record Place(int zone, int node) {
    }

    private record BayEnds(Place a, Place b) {
        Place in(int zone) {
            return a.zone() == zone ? a : b.zone() == zone ? b : null;
        }

        Place behind(int zone) {
            return a.zone() == zone ? b : a;
        }
    }

    private static final class ModelJob {
        int from;
        int to;
        int priority;
        int sent;
        int state;
        int bay = -1;
        Place at;
        List<Integer> bays = new ArrayList<>();
        List<Integer> path = new ArrayList<>();
        int gone;
        int stuckIndex;
        int arrived = -1;
    }

    private final Map<Place, Integer> parents = new HashMap<>();
    private final Map<Place, Integer> tubeTicks = new HashMap<>();
    private final Map<Integer, Place> stations = new HashMap<>();
    private final Map<Integer, BayEnds> bays = new HashMap<>();
    private final Set<Place> sticky = new HashSet<>();
    private final Set<Integer> closed = new HashSet<>();
    private final List<ModelJob> jobs = new ArrayList<>();
    private boolean sealed;
    private int moment;
    private int begun;

    PlainModel() {
        for (int zone = 0; zone <= 4; zone++) {
            parents.put(new Place(zone, 0), -1);
        }
    }

    void tube(int zone, int node, int parent, int ticks) {
        argument(zone >= 0 && zone <= 4 && node >= 1 && node <= 9 && ticks >= 1 && ticks <= 9);
        argument(parents.containsKey(new Place(zone, parent)));
        state(!sealed && !parents.containsKey(new Place(zone, node)));
        parents.put(new Place(zone, node), parent);
        tubeTicks.put(new Place(zone, node), ticks);
    }

    void station(int s, int zone, int node) {
        Place place = new Place(zone, node);
        argument(s >= 0 && s <= 11 && parents.containsKey(place));
        state(!sealed && !stations.containsKey(s) && !hasSomething(place));
        stations.put(s, place);
    }

    void bay(int b, int zoneA, int nodeA, int zoneB, int nodeB) {
        Place a = new Place(zoneA, nodeA);
        Place z = new Place(zoneB, nodeB);
        argument(b >= 0 && b <= 5 && parents.containsKey(a) && parents.containsKey(z) && zoneA != zoneB);
        state(!sealed && !bays.containsKey(b) && !hasSomething(a) && !hasSomething(z));
        bays.put(b, new BayEnds(a, z));
    }

    int seal() {
        state(!sealed);
        if (stations.size() < 2) {
            return 1;
        }
        for (Place place : somethings()) {
            for (Place node : parents.keySet()) {
                if (node.zone() == place.zone() && parents.get(node) == place.node()) {
                    return 2;
                }
            }
        }
        for (int from : stations.keySet()) {
            for (int to : stations.keySet()) {
                if (from != to && bestWay(stations.get(from), to, true) == null) {
                    return 3;
                }
            }
        }
        sealed = true;
        return 0;
    }

    int send(int from, int to, int priority) {
        argument(stations.containsKey(from) && stations.containsKey(to) && from != to);
        argument(priority >= 0 && priority <= 3);
        state(sealed && jobs.size() < 40);
        for (ModelJob other : jobs) {
            state(other.state != 0 || other.from != from);
        }
        ModelJob job = new ModelJob();
        job.from = from;
        job.to = to;
        job.priority = priority;
        job.sent = moment;
        job.at = stations.get(from);
        List<Integer> way = bestWay(job.at, to, false);
        job.bays = way != null ? way : bestWay(job.at, to, true);
        jobs.add(job);
        return jobs.size() - 1;
    }

    int take(int s) {
        argument(stations.containsKey(s));
        int first = -1;
        for (int j = 0; j < jobs.size(); j++) {
            ModelJob job = jobs.get(j);
            if (job.state == 3 && job.to == s && (first < 0 || job.arrived < jobs.get(first).arrived)) {
                first = j;
            }
        }
        element(first >= 0);
        jobs.get(first).state = 5;
        return first;
    }

    int tick(int n) {
        argument(n >= 1 && n <= 100);
        state(sealed);
        int before = begun;
        for (int i = 0; i < n; i++) {
            oneTick();
        }
        return begun - before;
    }

    void stick(int zone, int node, boolean on) {
        argument(parents.containsKey(new Place(zone, node)));
        state(sealed);
        if (on) {
            sticky.add(new Place(zone, node));
        } else {
            sticky.remove(new Place(zone, node));
        }
    }

    boolean close(int zone, boolean on) {
        argument(zone >= 0 && zone <= 4);
        state(sealed);
        boolean changed = on ? closed.add(zone) : closed.remove(zone);
        if (changed) {
            for (ModelJob job : jobs) {
                List<Integer> way = job.state == 0 || job.state == 2 ? bestWay(job.at, job.to, false) : null;
                job.bays = way != null ? way : job.bays;
            }
        }
        return changed;
    }

    int job(int j, int what) {
        element(j >= 0 && j < jobs.size());
        argument(what >= 0 && what <= 5);
        ModelJob job = jobs.get(j);
        boolean onPath = job.state == 1 || job.state == 4;
        boolean done = job.state == 3 || job.state == 5;
        int place = job.state == 0 ? job.from : onPath ? job.at.zone() : job.state == 2 ? job.bay : job.to;
        int[] answers = {job.state, place, rank(job), onPath ? job.gone : 0, done ? 0 : job.bays.size() + 1,
            job.arrived};
        return answers[what];
    }

    int ahead(int j, int i) {
        element(j >= 0 && j < jobs.size());
        argument(i >= 0);
        return i < jobs.get(j).bays.size() ? jobs.get(j).bays.get(i) : -1;
    }

    int stuck(int j, int part) {
        element(j >= 0 && j < jobs.size() && jobs.get(j).state == 4);
        argument(part == 0 || part == 1);
        ModelJob job = jobs.get(j);
        return job.path.get(job.stuckIndex - 1 + part);
    }

    int time(int from, int to) {
        argument(stations.containsKey(from) && stations.containsKey(to) && from != to);
        state(sealed);
        List<Integer> way = bestWay(stations.get(from), to, false);
        return way == null ? -1 : wayTime(stations.get(from), way, stations.get(to));
    }

    int count(int what) {
        int[] inState = new int[6];
        for (ModelJob job : jobs) {
            inState[job.state]++;
        }
        int[] answers = {moment, jobs.size(), jobs.size() - inState[5], inState[1], inState[4], begun};
        return what >= 0 && what <= 5 ? answers[what] : -1;
    }

    private void oneTick() {
        moment++;
        for (int zone = 0; zone <= 4; zone++) {
            ModelJob carrier = carrierIn(zone);
            if (carrier != null) {
                move(carrier);
            }
        }
        for (int zone = 0; zone <= 4; zone++) {
            if (carrierIn(zone) == null && !closed.contains(zone)) {
                beginOne(zone);
            }
        }
    }

    private ModelJob carrierIn(int zone) {
        for (ModelJob job : jobs) {
            if ((job.state == 1 || job.state == 4) && job.at.zone() == zone) {
                return job;
            }
        }
        return null;
    }

    private void move(ModelJob job) {
        int zone = job.at.zone();
        if (job.state == 4) {
            if (sticky.contains(new Place(zone, job.path.get(job.stuckIndex)))) {
                return;
            }
            job.state = 1;
        } else {
            job.gone++;
            for (int i = 1; i < job.path.size(); i++) {
                boolean isThere = pathTime(zone, job.path.subList(0, i + 1)) == job.gone;
                if (isThere && sticky.contains(new Place(zone, job.path.get(i)))) {
                    job.state = 4;
                    job.stuckIndex = i;
                    return;
                }
            }
        }
        if (job.gone == pathTime(zone, job.path)) {
            reachNextPlace(job);
        }
    }

    private void reachNextPlace(ModelJob job) {
        if (job.bays.isEmpty()) {
            job.state = 3;
            job.arrived = moment;
        } else {
            job.state = 2;
            job.bay = job.bays.get(0);
            job.at = bays.get(job.bay).behind(job.at.zone());
            job.bays = new ArrayList<>(job.bays.subList(1, job.bays.size()));
        }
    }

    private void beginOne(int zone) {
        ModelJob chosen = null;
        for (ModelJob job : jobs) {
            boolean rests = job.state == 0 || job.state == 2;
            if (rests && job.at.zone() == zone && hasRoom(job) && (chosen == null || rank(job) > rank(chosen))) {
                chosen = job;
            }
        }
        if (chosen != null) {
            Place end = chosen.bays.isEmpty() ? stations.get(chosen.to) : bays.get(chosen.bays.get(0)).in(zone);
            chosen.path = path(chosen.at, end);
            chosen.gone = 0;
            chosen.state = 1;
            begun++;
        }
    }

    private boolean hasRoom(ModelJob job) {
        int there = 0;
        for (ModelJob other : jobs) {
            boolean onPath = other.state == 1 || other.state == 4;
            if (job.bays.isEmpty()) {
                boolean comes = onPath && other.bays.isEmpty();
                there += other.to == job.to && (other.state == 3 || comes) ? 1 : 0;
            } else {
                boolean comes = onPath && !other.bays.isEmpty() && other.bays.get(0).equals(job.bays.get(0));
                there += comes || other.state == 2 && other.bay == job.bays.get(0) ? 1 : 0;
            }
        }
        return there < (job.bays.size() == 1 ? 3 : 2);
    }

    private int rank(ModelJob job) {
        return job.priority + (moment - job.sent) / 20;
    }

    private List<Integer> upward(Place from) {
        List<Integer> nodes = new ArrayList<>();
        for (int node = from.node(); node >= 0; node = parents.get(new Place(from.zone(), node))) {
            nodes.add(node);
        }
        return nodes;
    }

    private List<Integer> path(Place from, Place to) {
        List<Integer> up = upward(from);
        List<Integer> down = upward(to);
        List<Integer> path = new ArrayList<>();
        int i = 0;
        while (!down.contains(up.get(i))) {
            path.add(up.get(i++));
        }
        for (int k = down.indexOf(up.get(i)); k >= 0; k--) {
            path.add(down.get(k));
        }
        return path;
    }

    private int pathTime(int zone, List<Integer> path) {
        int sum = 2 * (path.size() - 2);
        for (int i = 1; i < path.size(); i++) {
            boolean goesUp = parents.get(new Place(zone, path.get(i - 1))).equals(path.get(i));
            sum += tubeTicks.get(new Place(zone, goesUp ? path.get(i - 1) : path.get(i)));
        }
        return sum;
    }

    private int wayTime(Place from, List<Integer> way, Place to) {
        int sum = 0;
        Place at = from;
        for (int b : way) {
            sum += pathTime(at.zone(), path(at, bays.get(b).in(at.zone()))) + 3;
            at = bays.get(b).behind(at.zone());
        }
        return sum + pathTime(at.zone(), path(at, to));
    }

    private List<Integer> bestWay(Place from, int to, boolean closedToo) {
        Place goal = stations.get(to);
        List<Integer> best = null;
        for (List<Integer> way : rowsOfBays()) {
            if (isWay(from, way, goal, closedToo) && (best == null || isBetter(from, way, best, goal))) {
                best = way;
            }
        }
        return best;
    }

    private boolean isBetter(Place from, List<Integer> way, List<Integer> other, Place goal) {
        int mine = wayTime(from, way, goal);
        int its = wayTime(from, other, goal);
        if (mine != its) {
            return mine < its;
        }
        for (int i = 0; i < way.size() && i < other.size(); i++) {
            if (!way.get(i).equals(other.get(i))) {
                return way.get(i) < other.get(i);
            }
        }
        return way.size() < other.size();
    }

    /** From the longest to the shortest and from the greatest down, so that no order helps the choice. */
    private List<List<Integer>> rowsOfBays() {
        List<List<Integer>> rows = new ArrayList<>();
        for (int first = 5; first >= 0; first--) {
            for (int second = 5; second >= 0; second--) {
                rows.add(List.of(first, second));
            }
        }
        for (int only = 5; only >= 0; only--) {
            rows.add(List.of(only));
        }
        rows.add(List.of());
        return rows;
    }

    private boolean isWay(Place from, List<Integer> way, Place goal, boolean closedToo) {
        Set<Integer> zones = new HashSet<>();
        zones.add(from.zone());
        Place at = from;
        for (int b : way) {
            BayEnds ends = bays.get(b);
            if (ends == null || ends.in(at.zone()) == null || ends.in(at.zone()).equals(at)) {
                return false;
            }
            at = ends.behind(at.zone());
            if (!zones.add(at.zone())) {
                return false;
            }
        }
        if (!closedToo) {
            for (int zone : zones) {
                if (closed.contains(zone)) {
                    return false;
                }
            }
        }
        return at.zone() == goal.zone();
    }

    private boolean hasSomething(Place place) {
        return somethings().contains(place);
    }

    private Set<Place> somethings() {
        Set<Place> places = new HashSet<>(stations.values());
        for (BayEnds ends : bays.values()) {
            places.add(ends.a());
            places.add(ends.b());
        }
        return places;
    }

    private static void argument(boolean holds) {
        if (!holds) {
            throw new IllegalArgumentException();
        }
    }

    private static void state(boolean holds) {
        if (!holds) {
            throw new IllegalStateException();
        }
    }

    private static void element(boolean holds) {
        if (!holds) {
            throw new NoSuchElementException();
        }
    }
}
