/** Promises 13 to 21: the calls that run, and those that tell. */
public final class RunTest {
    private static final int LOWEST = Integer.MIN_VALUE;
    private static final int HIGHEST = Integer.MAX_VALUE;

    public static void main(String[] args) {
        promise13Start();
        promise13Rounds();
        promise14Finish();
        promise15Status();
        promise16RunningAnd17Started();
        promise18Job();
        promise19Word();
        promise20State();
        promise21Output();
        afterAFailureRunningJobsGoOn();
        theOrderOfEndingsDoesNotMatter();
        Expect.end();
    }

    private static void promise13Start() {
        Probe p = new Probe();
        for (int workers : new int[] {0, 4, -1, LOWEST, HIGHEST}) {
            Expect.equal("13: start(" + workers + ")", p.x.start(workers), -1);
        }
        Expect.equal("13: nothing was run", p.x.status(), 0);
        Expect.equal("13: without steps", p.x.start(3), 0);
        Expect.equal("13: a SUCCESS at once", p.x.status(), 2);
        p.tool(0, 0);
        for (int s = 0; s < 5; s++) {
            p.step(0);
        }
        for (int workers = 1; workers <= 3; workers++) {
            Expect.equal("13: start", p.x.start(workers), 0);
            Expect.equal("13: that many run", p.x.running(), workers);
            Expect.equal("13: one goes on", p.x.start(workers), -1);
            Expect.equal("13: it is not disturbed", p.x.running(), workers);
            for (int n = 0; n < 5; n++) {
                p.x.finish(0);
            }
            Expect.equal("13: over", p.x.status(), 2);
            Expect.equal("13: an earlier one counts no more", p.x.started(), 5);
        }
    }

    private static void promise13Rounds() {
        Probe p = new Probe();
        p.tool(0, 0, 0);
        p.step(0);
        p.step(0);
        p.step(0);
        p.runAll();
        p.x.link(0, 0, 11);
        p.x.link(1, 1, 12);
        Expect.equal("13: a chain", p.runAll(), 2);
        p.x.link(2, 0, 10);
        Expect.equal("13: round three", p.x.start(1), 2);
        p.x.link(2, 0, 15);
        Expect.equal("13: one not there, and round", p.x.start(1), 1);
        Expect.equal("13: wrong workers before all", p.x.start(0), -1);
        Expect.equal("13: the earlier one stays", p.x.state(2), 2);
        Expect.equal("13: with its output", p.output(0), "\"\"");
        Expect.equal("13: with its status", p.x.status(), 2);

        Probe q = new Probe();
        q.tool(0, 0);
        q.step(0, 10);
        Expect.equal("13: its own source", q.x.start(1), 2);
        Expect.equal("13: nothing was run", q.x.status(), 0);
        Expect.equal("13: no state then", q.x.state(0), -1);

        Probe r = new Probe();
        r.tool(0);
        r.step(0, 10, 15);
        Expect.equal("13: ports that are not there do not count", r.runAll(), 2);
        r.x.port(0, 0, (char) 0, 0);
        Expect.equal("13: the first is there now", r.x.start(1), 2);
        r.x.port(0, 0, (char) 0, 0);
        Expect.equal("13: the second too", r.x.start(1), 1);
    }

    private static Probe threeByThree() {
        Probe p = new Probe();
        p.step(p.tool(0, 0), 0);
        p.x.scatter(0, 1, 0);
        p.input(0, "[10,11,12,13,14]");
        return p;
    }

    private static void promise14Finish() {
        Probe p = threeByThree();
        Expect.no("14: nothing runs", p.x.finish(0));
        p.x.start(3);
        for (int k : new int[] {-1, 3, LOWEST, HIGHEST}) {
            Expect.no("14: finish(" + k + ")", p.x.finish(k));
        }
        Expect.equal("14: in order", p.jobs(), "0.0 0.1 0.2");
        Expect.yes("14: the middle one", p.x.finish(1));
        Expect.equal("14: the new one is last", p.jobs(), "0.0 0.2 0.3");
        Expect.yes("14: the first one", p.x.finish(0));
        Expect.equal("14: the new one is last again", p.jobs(), "0.2 0.3 0.4");
        Expect.yes("14: the last one", p.x.finish(2));
        Expect.equal("14: no new one", p.jobs(), "0.2 0.3");
        Expect.no("14: there is none", p.x.finish(2));
        Expect.yes("14: the second", p.x.finish(1));
        Expect.yes("14: the last", p.x.finish(0));
        Expect.no("14: over", p.x.finish(0));
        Expect.equal("14: the outcome is in the order of the jobs", p.output(0),
            "[\"10\",\"11\",\"12\",\"13\",\"14\"]");
    }

    private static void promise15Status() {
        Probe p = new Probe();
        Expect.equal("15: before", p.x.status(), 0);
        p.step(p.tool(2, 0), 0);
        p.input(0, "1");
        Expect.equal("15: building is no run", p.x.status(), 0);
        p.x.start(1);
        Expect.equal("15: goes on", p.x.status(), 1);
        p.x.finish(0);
        Expect.equal("15: SUCCESS", p.x.status(), 2);
        p.input(0, "\"a\"");
        Expect.equal("15: still", p.x.status(), 2);
        p.x.start(1);
        p.x.finish(0);
        Expect.equal("15: FAILED in a result", p.x.status(), 3);
        p.from(0, 0, "$(self[0])");
        p.x.start(1);
        Expect.equal("15: FAILED in an expansion", p.x.status(), 3);
        p.from(0, 0, "3");
        Expect.equal("15: and a SUCCESS again", p.runAll(), 2);
    }

    private static void promise16RunningAnd17Started() {
        Probe p = threeByThree();
        p.x.start(2);
        int[] running = {2, 2, 2, 2, 1, 0};
        int[] started = {2, 3, 4, 5, 5, 5};
        for (int n = 0; n < 6; n++) {
            Expect.equal("16: running after " + n, p.x.running(), running[n]);
            Expect.equal("17: started after " + n, p.x.started(), started[n]);
            p.x.finish(0);
        }
        p.when(0, "$(self)");
        p.x.start(2);
        Expect.equal("16: skipped jobs do not run", p.x.running(), 0);
        Expect.equal("17: nor are they started", p.x.started(), 0);
    }

    private static void promise18Job() {
        Probe p = threeByThree();
        p.x.port(0, 0, 'k', 0);
        p.step(0, 0, 0);
        Expect.equal("18: nothing runs", p.x.job(0, 0), -1);
        p.x.start(3);
        p.x.finish(1);
        p.x.finish(1);
        p.x.finish(1);
        p.x.finish(1);
        Expect.equal("18: in the order of starting", p.jobs(), "0.0 1.0");
        Expect.equal("18: words of the first", p.x.job(0, 2), 1);
        Expect.equal("18: words of the second", p.x.job(1, 2), 3);
        for (int w : new int[] {-1, 3, LOWEST, HIGHEST}) {
            Expect.equal("18: job(0, " + w + ")", p.x.job(0, w), -1);
        }
        for (int k : new int[] {-1, 2, 3, LOWEST, HIGHEST}) {
            Expect.equal("18: job(" + k + ", 0)", p.x.job(k, 0), -1);
        }
    }

    private static void promise19Word() {
        Probe p = new Probe();
        p.step(p.tool(0, 2, 0), 0, 1);
        p.input(0, "[\"ab\",\"\",12]");
        p.input(1, "\"~ !\"");
        Expect.equal("19: nothing runs", p.x.word(0, 0, 0), -1);
        p.x.start(1);
        Expect.equal("19: all words", p.command(0), "<ab><><12><~ !>");
        Expect.equal("19: a code", p.x.word(0, 3, 0), 126);
        for (int i : new int[] {-1, 2, LOWEST, HIGHEST}) {
            Expect.equal("19: word(0, 0, " + i + ")", p.x.word(0, 0, i), -1);
        }
        Expect.equal("19: an empty word", p.x.word(0, 1, 0), -1);
        for (int j : new int[] {-1, 4, 8, LOWEST, HIGHEST}) {
            Expect.equal("19: word(0, " + j + ", 0)", p.x.word(0, j, 0), -1);
        }
        for (int k : new int[] {-1, 1, LOWEST, HIGHEST}) {
            Expect.equal("19: word(" + k + ", 0, 0)", p.x.word(k, 0, 0), -1);
        }
        p.x.finish(0);
        Expect.equal("19: it runs no more", p.x.word(0, 0, 0), -1);
    }

    private static void promise20State() {
        Probe p = new Probe();
        p.tool(0, 0);
        p.tool(2, 0);
        p.step(0, 0);
        p.step(1, 10);
        p.step(0, 11);
        Expect.equal("20: no run yet", p.x.state(0), -1);
        p.input(0, "\"5\"");
        p.x.start(1);
        for (int step : new int[] {-1, 3, 6, LOWEST, HIGHEST}) {
            Expect.equal("20: state(" + step + ")", p.x.state(step), -1);
        }
        Expect.equal("20: expanded", p.x.state(0), 1);
        Expect.equal("20: waits", p.x.state(1), 0);
        p.x.finish(0);
        Expect.equal("20: done", p.x.state(0), 2);
        Expect.equal("20: expanded now", p.x.state(1), 1);
        p.x.finish(0);
        p.x.finish(0);
        Expect.equal("20: all done", p.x.state(2), 2);
        p.step(0);
        Expect.equal("20: made after the run", p.x.state(3), 0);
        p.input(0, "\"x\"");
        p.x.start(2);
        Expect.equal("20: waits in the new run", p.x.state(2), 0);
        p.x.finish(0);
        p.x.finish(1);
        Expect.equal("20: failed", p.x.state(1), 3);
        Expect.equal("20: waits for ever", p.x.state(2), 0);
        Expect.equal("20: runs on", p.x.state(3), 1);
        p.x.finish(0);
        Expect.equal("20: is done still", p.x.state(3), 2);
    }

    private static void promise21Output() {
        Probe p = new Probe();
        p.step(p.tool(3, 2), 0);
        p.input(0, "[\"a\",-7]");
        Expect.equal("21: no run yet", p.x.output(0, 0), -1);
        p.x.start(1);
        Expect.equal("21: not done yet", p.x.output(0, 0), -1);
        p.x.finish(0);
        Expect.equal("21: the form", p.output(0), "[\"a\",\"-7\"]");
        for (int i : new int[] {-1, 10, LOWEST, HIGHEST}) {
            Expect.equal("21: output(0, " + i + ")", p.x.output(0, i), -1);
        }
        for (int step : new int[] {-1, 1, 6, LOWEST, HIGHEST}) {
            Expect.equal("21: output(" + step + ", 0)", p.x.output(step, 0), -1);
        }
        p.step(0);
        Expect.equal("21: made after the run", p.x.output(1, 0), -1);
        p.input(0, "[[\"a\"]]");
        p.x.gather(0, 0, 1, 3);
        Expect.equal("21: what was run stays", p.output(0), "[\"a\",\"-7\"]");
        p.x.start(1);
        Expect.equal("21: the earlier is gone", p.x.output(0, 0), -1);
        p.x.finish(0);
        Expect.equal("21: failed", p.x.output(0, 0), -1);
    }

    private static void afterAFailureRunningJobsGoOn() {
        Probe p = new Probe();
        p.tool(2, 0);
        p.tool(0, 0);
        p.step(0, 0);
        p.x.scatter(0, 1, 0);
        p.step(1, 1);
        p.step(1, 11);
        p.input(0, "[\"x\",2,3]");
        p.x.start(3);
        Expect.equal("failure: three of the first step", p.jobs(), "0.0 0.1 0.2");
        p.x.finish(0);
        Expect.equal("failure: status", p.x.status(), 1);
        Expect.equal("failure: the step has failed", p.x.state(0), 3);
        Expect.equal("failure: nothing is started", p.jobs(), "0.1 0.2");
        p.x.finish(0);
        p.x.finish(0);
        Expect.equal("failure: over", p.x.status(), 3);
        Expect.equal("failure: the step stays failed", p.x.state(0), 3);
        Expect.equal("failure: the second step was only expanded", p.x.state(1), 1);
        Expect.equal("failure: the third waits", p.x.state(2), 0);

        Probe q = new Probe();
        q.tool(2, 0);
        q.step(0, 0);
        q.step(0, 1);
        q.step(0, 2);
        q.step(0, 11);
        q.input(0, "\"x\"");
        q.input(1, "1");
        q.input(2, "\"y\"");
        q.x.start(3);
        q.x.finish(0);
        q.x.finish(0);
        Expect.equal("failure: others may be done", q.x.state(1), 2);
        Expect.equal("failure: but none is expanded", q.x.state(3), 0);
        q.x.finish(0);
        Expect.equal("failure: or fail too", q.x.state(2), 3);
        Expect.equal("failure: with an output", q.output(1), "1");

        Probe r = new Probe();
        r.tool(1, 0);
        r.step(0, 0);
        r.step(0, 1);
        r.from(1, 0, "$(self[0])");
        r.step(0);
        r.x.start(1);
        Expect.equal("failure: in an expansion at the start", r.x.status(), 3);
        Expect.equal("failure: no job of the others", r.x.started(), 0);
        Expect.equal("failure: the first was expanded", r.x.state(0), 1);
        Expect.equal("failure: the second failed", r.x.state(1), 3);
        Expect.equal("failure: the third was not expanded", r.x.state(2), 0);
    }

    private static void theOrderOfEndingsDoesNotMatter() {
        String[] outcomes = new String[30];
        for (int order = 0; order < outcomes.length; order++) {
            outcomes[order] = outcomeInOrder(order);
            Expect.equal("order " + order, outcomes[order], outcomes[0]);
        }
        Expect.equal("order: the outcome", outcomes[0],
            "[[\"1 a\",\"1 b\"],[\"2 a\",\"2 b\"]] [\"1\",\"2\",\"a\",\"b\"] [\"1 a\",\"2 b\"]");
    }

    private static String outcomeInOrder(int order) {
        Probe p = new Probe();
        p.tool(0, 0, 0);
        p.tool(3, 2, 2);
        p.step(0, 0, 1);
        p.x.scatter(0, 3, 2);
        p.step(1, 0, 1);
        p.step(1, 10, 10);
        p.from(2, 0, "$(self[0][0])");
        p.from(2, 1, "$(self[1][1])");
        p.input(0, "[1,2]");
        p.input(1, "[\"a\",\"b\"]");
        p.x.start(1 + order % 3);
        int roll = order;
        for (int n = 0; n < 20 && p.x.running() > 0; n++) {
            roll = roll * 31 + 7;
            p.x.finish((roll >>> 2) % p.x.running());
        }
        return p.output(0) + " " + p.output(1) + " " + p.output(2);
    }
}
