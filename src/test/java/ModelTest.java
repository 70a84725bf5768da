import java.util.ArrayList;
import java.util.Collections;
import java.util.List;
import java.util.Random;
import java.util.function.IntSupplier;

/**
 * Runs of calls, drawn from written seeds: the desk and the plain model must answer alike. All that can be
 * asked of the jobs is looked at behind each call; that makes more than 512 calls, which the desk bears.
 */
final class ModelTest {
    private static final int RUNS = 1200;
    private static final int CALLS_BEHIND_THE_SEAL = 400;
    private static final int JOBS = 40;

    /** What was seen in all runs: runs in which nothing happens would test nothing. */
    private static final int[] STATES_SEEN = new int[6];
    private static int sealedRuns;
    private static int fullRuns;

    private final Random random;
    private final TubeDesk desk = new TubeDesk();
    private final PlainModel model = new PlainModel();
    private final StringBuilder told = new StringBuilder();
    private boolean apart;

    private ModelTest(int seed) {
        random = new Random(seed);
    }

    public static void main(String[] args) {
        int wrong = 0;
        for (int seed = 0; seed < RUNS && wrong < 3; seed++) {
            ModelTest run = new ModelTest(seed);
            run.build(seed);
            run.use();
            if (run.apart) {
                wrong++;
                System.out.println("seed " + seed + ": " + run.told);
            }
        }
        boolean idle = isIdle();
        System.out.println(RUNS + " runs, " + sealedRuns + " of them sealed, " + fullRuns + " with all forty jobs, "
            + wrong + " not as due" + (idle ? "; too little happens in them" : ""));
        if (wrong != 0 || idle) {
            System.exit(1);
        }
    }

    private static boolean isIdle() {
        boolean idle = sealedRuns < RUNS / 2 || fullRuns == 0;
        for (int seen : STATES_SEEN) {
            idle |= seen < RUNS;
        }
        return idle;
    }

    /** Most plans are sound; each tenth one is drawn without care. */
    private void build(int seed) {
        if (seed % 10 == 9) {
            for (int i = 0; i < 80; i++) {
                carelessPlanCall();
            }
        } else {
            soundPlan();
        }
        if (both("seal()", desk::seal, model::seal) == 0) {
            sealedRuns++;
        }
    }

    private void carelessPlanCall() {
        int kind = random.nextInt(4);
        if (kind <= 1) {
            tube(near(5), near(10), near(10), near(10));
        } else if (kind == 2) {
            station(near(12), near(5), near(10));
        } else {
            bay(near(6), near(5), near(10), near(5), near(10));
        }
    }

    /** A zone in the middle that bays join with all others, and some bays more. */
    private void soundPlan() {
        int zones = 1 + random.nextInt(5);
        int longest = 1 + random.nextInt(9);
        List<List<Integer>> leaves = new ArrayList<>();
        for (int zone = 0; zone < zones; zone++) {
            leaves.add(tree(zone, 4 + random.nextInt(6), longest));
        }
        List<Integer> numbers = new ArrayList<>(List.of(0, 1, 2, 3, 4, 5));
        Collections.shuffle(numbers, random);
        int middle = random.nextInt(zones);
        for (int zone = 0; zone < zones; zone++) {
            join(numbers, leaves, middle, zone);
        }
        int more = random.nextInt(4);
        for (int i = 0; i < more; i++) {
            join(numbers, leaves, random.nextInt(zones), random.nextInt(zones));
        }
        for (int s = 0; s < 12; s++) {
            int zone = random.nextInt(zones);
            if (!leaves.get(zone).isEmpty()) {
                station(s, zone, leaves.get(zone).remove(0));
            }
        }
    }

    private List<Integer> tree(int zone, int most, int longest) {
        boolean[] hasBelow = new boolean[10];
        for (int node = 1; node <= most; node++) {
            int parent = random.nextInt(3) == 0 ? random.nextInt(node) : random.nextInt(Math.min(node, 2));
            hasBelow[parent] = true;
            tube(zone, node, parent, 1 + random.nextInt(longest));
        }
        List<Integer> leaves = new ArrayList<>();
        for (int node = 1; node <= most; node++) {
            if (!hasBelow[node]) {
                leaves.add(node);
            }
        }
        Collections.shuffle(leaves, random);
        return leaves;
    }

    private void join(List<Integer> numbers, List<List<Integer>> leaves, int zoneA, int zoneB) {
        boolean free = !numbers.isEmpty() && !leaves.get(zoneA).isEmpty() && !leaves.get(zoneB).isEmpty();
        if (free && zoneA != zoneB) {
            bay(numbers.remove(0), zoneA, leaves.get(zoneA).remove(0), zoneB, leaves.get(zoneB).remove(0));
        }
    }

    private void use() {
        boolean hasty = random.nextBoolean();
        for (int i = 0; i < CALLS_BEHIND_THE_SEAL && !apart; i++) {
            oneCall(hasty);
            lookAtAll();
        }
        if (desk.count(1) == JOBS) {
            fullRuns++;
        }
    }

    private void oneCall(boolean hasty) {
        int kind = random.nextInt(100);
        if (kind < 36) {
            int from = near(12);
            int to = near(12);
            int priority = random.nextInt(20) == 0 ? near(4) : random.nextInt(4);
            both("send(" + from + ", " + to + ", " + priority + ")",
                () -> desk.send(from, to, priority), () -> model.send(from, to, priority));
        } else if (kind < 60) {
            int n = random.nextInt(25) == 0 ? near(101) : 1 + random.nextInt(hasty ? 30 : 6);
            both("tick(" + n + ")", () -> desk.tick(n), () -> model.tick(n));
        } else if (kind < 76) {
            int s = near(12);
            both("take(" + s + ")", () -> desk.take(s), () -> model.take(s));
        } else if (kind < 84) {
            stickCall();
        } else if (kind < 90) {
            closeCall();
        } else if (kind < 92) {
            carelessPlanCall();
        } else if (kind < 93) {
            both("seal()", desk::seal, model::seal);
        } else {
            question();
        }
    }

    private void stickCall() {
        int zone = near(5);
        int node = near(10);
        boolean on = random.nextInt(3) == 0;
        both("stick(" + zone + ", " + node + ", " + on + ")", () -> {
            desk.stick(zone, node, on);
            return 0;
        }, () -> {
            model.stick(zone, node, on);
            return 0;
        });
    }

    private void closeCall() {
        int zone = near(5);
        boolean on = random.nextInt(5) < 2;
        both("close(" + zone + ", " + on + ")", () -> desk.close(zone, on) ? 1 : 0,
            () -> model.close(zone, on) ? 1 : 0);
    }

    private void question() {
        int a = near(12);
        int b = near(8);
        both("time(" + a + ", " + b + ")", () -> desk.time(a, b), () -> model.time(a, b));
        both("job(" + a + ", " + b + ")", () -> desk.job(a, b), () -> model.job(a, b));
        both("ahead(" + a + ", " + b + ")", () -> desk.ahead(a, b), () -> model.ahead(a, b));
        both("stuck(" + a + ", " + b + ")", () -> desk.stuck(a, b), () -> model.stuck(a, b));
        both("count(" + b + ")", () -> desk.count(b), () -> model.count(b));
    }

    private void lookAtAll() {
        int length = told.length();
        for (int what = -1; what <= 6; what++) {
            int w = what;
            both("count(" + w + ")", () -> desk.count(w), () -> model.count(w));
        }
        for (int j = 0; j < model.count(1) && !apart; j++) {
            lookAtJob(j);
        }
        if (!apart) {
            told.setLength(length);
        }
    }

    private void lookAtJob(int j) {
        int state = both("job(" + j + ", 0)", () -> desk.job(j, 0), () -> model.job(j, 0));
        if (state >= 0) {
            STATES_SEEN[state]++;
        }
        for (int what = 1; what <= 5; what++) {
            int w = what;
            both("job(" + j + ", " + w + ")", () -> desk.job(j, w), () -> model.job(j, w));
        }
        for (int i = 0; i <= 2; i++) {
            int at = i;
            both("ahead(" + j + ", " + at + ")", () -> desk.ahead(j, at), () -> model.ahead(j, at));
        }
        for (int part = 0; part <= 1 && state == Plans.STUCK; part++) {
            int p = part;
            both("stuck(" + j + ", " + p + ")", () -> desk.stuck(j, p), () -> model.stuck(j, p));
        }
    }

    private void tube(int zone, int node, int parent, int ticks) {
        both("tube(" + zone + ", " + node + ", " + parent + ", " + ticks + ")", () -> {
            desk.tube(zone, node, parent, ticks);
            return 0;
        }, () -> {
            model.tube(zone, node, parent, ticks);
            return 0;
        });
    }

    private void station(int s, int zone, int node) {
        both("station(" + s + ", " + zone + ", " + node + ")", () -> {
            desk.station(s, zone, node);
            return 0;
        }, () -> {
            model.station(s, zone, node);
            return 0;
        });
    }

    private void bay(int b, int zoneA, int nodeA, int zoneB, int nodeB) {
        both("bay(" + b + ", " + zoneA + ", " + nodeA + ", " + zoneB + ", " + nodeB + ")", () -> {
            desk.bay(b, zoneA, nodeA, zoneB, nodeB);
            return 0;
        }, () -> {
            model.bay(b, zoneA, nodeA, zoneB, nodeB);
            return 0;
        });
    }

    /** Mostly 0 .. bound - 1, now and then beside it or far away. */
    private int near(int bound) {
        int kind = random.nextInt(40);
        if (kind == 0) {
            int[] odd = {-1, bound, Integer.MIN_VALUE, Integer.MAX_VALUE};
            return odd[random.nextInt(odd.length)];
        }
        return random.nextInt(bound);
    }

    /** The desk's answer; the lowest number for an exception. */
    private int both(String call, IntSupplier onDesk, IntSupplier onModel) {
        if (apart) {
            return Integer.MIN_VALUE;
        }
        String got = outcome(onDesk);
        String want = outcome(onModel);
        told.append(call).append(" = ").append(got).append("; ");
        if (!got.equals(want)) {
            told.append("due is ").append(want);
            apart = true;
        }
        return got.startsWith("throws") ? Integer.MIN_VALUE : Integer.parseInt(got);
    }

    private static String outcome(IntSupplier call) {
        try {
            return Integer.toString(call.getAsInt());
        } catch (RuntimeException e) {
            return "throws." + e.getClass().getSimpleName();
        }
    }
}
