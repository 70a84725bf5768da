import java.util.ArrayList;
import java.util.List;

/** A refused call changes nothing: behind it all answers are those of an object that was spared it. */
final class RefusedTest {
    /** The station to which nothing is sent, so that its basket stays empty. */
    private static final int NEVER_A_GOAL = 11;

    public static void main(String[] args) {
        refusedTubes();
        refusedStations();
        refusedBays();
        refusedSeals();
        refusedBeforeTheSeal();
        refusedBehindTheSeal();
        Check.end();
    }

    private static void refusedTubes() {
        TubeDesk desk = Plans.nodesOfZone(0, 2, 0);
        Check.badArgument("a tube of 0 ticks", () -> desk.tube(0, 3, 1, 0));
        Check.badArgument("a tube of 10 ticks", () -> desk.tube(0, 3, 2, 10));
        Check.badArgument("below a node that is not there", () -> desk.tube(0, 3, 4, 1));
        Check.badState("a node that is there", () -> desk.tube(0, 1, 2, 9));
        Check.badArgument("node 3 is not there", () -> desk.station(0, 0, 3));
        desk.station(0, 0, 1);
        desk.station(1, 0, 2);
        Check.due("seal(): nodes 1 and 2 are leaves", 0, desk.seal());
        Check.due("time(0, 1)", 4, desk.time(0, 1));
        Check.badState("sealed", () -> desk.tube(0, 3, 1, 1));
        Check.badArgument("node 3 is not there yet", () -> desk.stick(0, 3, true));
    }

    private static void refusedStations() {
        TubeDesk desk = Plans.nodesOfZone(0, 3, 0);
        Check.badArgument("no such station", () -> desk.station(12, 0, 1));
        Check.badArgument("no such node", () -> desk.station(0, 0, 4));
        Check.badArgument("station 0 is not there", () -> desk.take(0));
        desk.station(0, 0, 1);
        Check.badState("the station is there", () -> desk.station(0, 0, 2));
        Check.badState("the node has something", () -> desk.station(1, 0, 1));
        Check.badArgument("station 1 is not there", () -> desk.take(1));
        Check.due("seal()", 1, desk.seal());
        desk.station(1, 0, 2);
        Check.due("seal()", 0, desk.seal());
        Check.badState("sealed", () -> desk.station(2, 0, 3));
        Check.badArgument("station 2 is not there", () -> desk.take(2));
    }

    private static void refusedBays() {
        TubeDesk desk = Plans.nodesOfZone(0, 3, 0);
        desk.tube(1, 1, 0, 1);
        desk.tube(1, 2, 0, 1);
        desk.station(0, 0, 1);
        Check.badState("the first end has something", () -> desk.bay(0, 0, 1, 1, 1));
        Check.badState("the second end has something", () -> desk.bay(0, 1, 1, 0, 1));
        Check.badArgument("no such first end", () -> desk.bay(0, 0, 4, 1, 1));
        Check.badArgument("no such second end", () -> desk.bay(0, 1, 1, 0, 4));
        Check.badArgument("one zone", () -> desk.bay(0, 0, 2, 0, 3));
        Check.badArgument("no such bay", () -> desk.bay(6, 0, 2, 1, 1));
        desk.station(1, 1, 1);
        Check.due("seal(): there is no bay", 3, desk.seal());
        desk.bay(0, 0, 2, 1, 2);
        Check.badState("the bay is there", () -> desk.bay(0, 0, 3, 1, 0));
        desk.station(2, 0, 3);
        Check.due("seal()", 0, desk.seal());
        Check.due("time(0, 1)", 11, desk.time(0, 1));
    }

    private static void refusedSeals() {
        TubeDesk desk = new TubeDesk();
        Check.due("seal()", 1, desk.seal());
        desk.tube(0, 1, 0, 1);
        desk.tube(0, 2, 0, 1);
        desk.tube(1, 1, 0, 1);
        desk.tube(1, 2, 0, 1);
        desk.station(0, 0, 1);
        Check.due("seal()", 1, desk.seal());
        desk.station(1, 1, 1);
        Check.due("seal()", 3, desk.seal());
        Check.badState("send, not sealed", () -> desk.send(0, 1, 0));
        desk.bay(0, 0, 2, 1, 2);
        Check.due("seal()", 0, desk.seal());
        desk.send(0, 1, 0);
        Check.badState("seal() again", desk::seal);
        Check.due("tick(1)", 1, desk.tick(1));
    }

    private static void refusedBeforeTheSeal() {
        TubeDesk desk = Plans.openStar();
        Check.badState("send", () -> desk.send(0, 1, 3));
        Check.noneSuch("take", () -> desk.take(0));
        Check.badState("tick", () -> desk.tick(100));
        Check.badState("stick", () -> desk.stick(0, 0, true));
        Check.badState("close", () -> desk.close(0, true));
        Check.badState("time", () -> desk.time(0, 1));
        Check.noneSuch("job", () -> desk.job(0, 0));
        Check.noneSuch("ahead", () -> desk.ahead(0, 0));
        Check.noneSuch("stuck", () -> desk.stuck(0, 0));
        Check.due("seal()", 0, desk.seal());
        TubeDesk spared = Plans.star();
        desk.send(0, 1, 0);
        spared.send(0, 1, 0);
        alike("behind the seal", desk, spared);
        desk.tick(3);
        spared.tick(3);
        alike("and three ticks", desk, spared);
    }

    /** Each step is done on both; behind it one of them is given all the calls that it must refuse. */
    private static void refusedBehindTheSeal() {
        TubeDesk desk = Plans.row();
        TubeDesk spared = Plans.row();
        for (int step = 0; step < 60; step++) {
            doStep(desk, step);
            doStep(spared, step);
            refuseAll(desk);
            alike("behind step " + step, desk, spared);
        }
        Check.due("one of the jobs is stuck", 1, desk.count(4));
        Check.due("one of them is taken", 1, desk.count(1) - desk.count(2));
    }

    private static void doStep(TubeDesk desk, int step) {
        if (step < 12) {
            desk.send(step, (step + 5) % NEVER_A_GOAL, step % 4);
        } else if (step == 15) {
            desk.close(1, true);
        } else if (step == 20) {
            desk.close(1, false);
        } else if (step == 40) {
            desk.take(filledBasket(desk));
        } else if (step == 44) {
            desk.send(0, 1, 0);
        } else if (step == 45) {
            desk.stick(0, 0, true);
        } else {
            desk.tick(step % 5 + 1);
        }
    }

    private static void refuseAll(TubeDesk desk) {
        refusePlan(desk);
        Check.badArgument("send to no station", () -> desk.send(0, 12, 0));
        Check.badArgument("send to the same", () -> desk.send(0, 0, 0));
        Check.badArgument("send of priority 4", () -> desk.send(0, 1, 4));
        Check.badArgument("take at no station", () -> desk.take(12));
        Check.noneSuch("take of an empty basket", () -> desk.take(NEVER_A_GOAL));
        Check.badArgument("tick(0)", () -> desk.tick(0));
        Check.badArgument("tick(101)", () -> desk.tick(101));
        Check.badArgument("stick in no zone", () -> desk.stick(5, 0, true));
        Check.badArgument("stick at no node", () -> desk.stick(0, 7, true));
        Check.badArgument("close no zone", () -> desk.close(5, true));
        int jobs = desk.count(1);
        Check.noneSuch("job", () -> desk.job(jobs, 0));
        Check.noneSuch("ahead", () -> desk.ahead(jobs, 0));
        Check.noneSuch("stuck", () -> desk.stuck(jobs, 0));
        Check.badArgument("job", () -> desk.job(0, 6));
        Check.badArgument("ahead", () -> desk.ahead(0, -1));
        Check.badArgument("time", () -> desk.time(0, 12));
        for (int j = 0; j < jobs; j++) {
            if (desk.job(j, 0) == Plans.WAITING) {
                int slot = desk.job(j, 1);
                Check.badState("send from a filled slot", () -> desk.send(slot, (slot + 1) % 12, 0));
            }
        }
    }

    private static void refusePlan(TubeDesk desk) {
        Check.badState("seal", desk::seal);
        Check.badState("tube", () -> desk.tube(0, 7, 0, 1));
        Check.badState("tube below a leaf", () -> desk.tube(0, 7, 1, 1));
        Check.badState("station", () -> desk.station(0, 3, 0));
        Check.badState("bay", () -> desk.bay(0, 3, 0, 4, 0));
    }

    private static int filledBasket(TubeDesk desk) {
        for (int j = 0; j < desk.count(1); j++) {
            if (desk.job(j, 0) == Plans.ARRIVED) {
                return desk.job(j, 1);
            }
        }
        throw new AssertionError("nothing has arrived");
    }

    private static void alike(String when, TubeDesk desk, TubeDesk spared) {
        List<Integer> want = allAnswers(spared);
        List<Integer> got = allAnswers(desk);
        Check.due(when + ": " + got + " for " + want, true, got.equals(want));
    }

    private static List<Integer> allAnswers(TubeDesk desk) {
        List<Integer> answers = new ArrayList<>();
        for (int what = 0; what <= 5; what++) {
            answers.add(desk.count(what));
        }
        for (int j = 0; j < desk.count(1); j++) {
            for (int what = 0; what <= 5; what++) {
                answers.add(desk.job(j, what));
            }
            answers.add(desk.ahead(j, 0));
            answers.add(desk.ahead(j, 1));
            if (desk.job(j, 0) == Plans.STUCK) {
                answers.add(desk.stuck(j, 0));
                answers.add(desk.stuck(j, 1));
            }
        }
        answers.add(desk.time(0, 1));
        return answers;
    }
}
