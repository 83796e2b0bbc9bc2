/**
 * "An object is used for at most 512 calls after it has been made": up to the 512th every call
 * answers as the document says, whatever the calls before it were.
 */
public final class LongUseTest {
    private static final int LIMIT = Counted.LIMIT;
    private static final int LOWEST = Integer.MIN_VALUE;
    private static final int HIGHEST = Integer.MAX_VALUE;

    public static void main(String[] args) {
        onlyWrites();
        onlyDrafts();
        onlyStarts();
        onlyRefusals();
        runsOverAndOver();
        rulesOverAndOver();
        theLastCallIsARuns();
        strangeArgumentsInEveryState();
        Expect.end();
    }

    private static void onlyWrites() {
        StepRunner x = new StepRunner();
        for (int n = 1; n < LIMIT; n++) {
            Expect.equal("write " + n, x.write(n == 1 ? '"' : 'x'), n <= 60);
        }
        Expect.no("the 512th call", x.input(0));
    }

    private static void onlyDrafts() {
        StepRunner x = new StepRunner();
        for (int n = 1; n <= LIMIT; n++) {
            boolean writes = n % 2 == 1;
            Expect.yes("call " + n, writes ? x.write((char) ('0' + n / 2 % 10)) : x.input(n / 2 % 3));
        }
    }

    private static void onlyStarts() {
        StepRunner x = new StepRunner();
        for (int n = 1; n < LIMIT; n++) {
            Expect.equal("start " + n, x.start(1 + n % 3), 0);
        }
        Expect.equal("the 512th call", x.status(), 2);
    }

    private static void onlyRefusals() {
        Probe p = new Probe();
        for (int n = 0; n < 62; n++) {
            p.x.tool(4);
            p.x.port(0, 0, 'a', 0);
            p.x.step(0);
            p.x.link(0, 0, 0);
            p.x.scatter(0, 1, 0);
            p.x.finish(0);
            p.x.start(0);
            p.x.input(3);
        }
        Expect.equal("a tool", p.x.tool(3), 0);
        Expect.equal("a port", p.x.port(0, 0, 'a', 0), 0);
        Expect.equal("a step", p.x.step(0), 0);
        Expect.yes("a source", p.x.link(0, 0, 0));
        Expect.yes("a draft", p.x.write('5'));
        Expect.yes("an input", p.x.input(0));
        Expect.equal("a run", p.x.start(1), 0);
        Expect.equal("a word", p.x.word(0, 1, 0), (int) '5');
        while (p.x.calls() < LIMIT - 3) {
            Expect.no("none ends", p.x.finish(1));
        }
        Expect.yes("it ends", p.x.finish(0));
        Expect.equal("it is over", p.x.status(), 2);
        Expect.equal("the 512th call", p.x.output(0, 2), (int) '-');
        Expect.equal("512 calls", p.x.calls(), LIMIT);
    }

    /** The first run and the last go alike. */
    private static void runsOverAndOver() {
        Probe p = new Probe();
        p.tool(3, 0, 0);
        p.tool(2, 2);
        p.step(0, 0, 1);
        p.x.scatter(0, 3, 2);
        p.step(1, 0);
        p.step(0, 11, 10);
        p.from(2, 1, "$(self[1][0][1])");
        p.input(0, "[1,2]");
        p.input(1, "[3,4]");
        while (p.x.calls() <= LIMIT - 9 - 14) {
            Expect.equal("it starts", p.x.start(3), 0);
            for (int n = 6; n > 0; n--) {
                Expect.yes("a job ends", p.x.finish(n % Math.min(3, n)));
            }
            Expect.equal("a SUCCESS", p.x.status(), 2);
            Expect.equal("six jobs", p.x.started(), 6);
        }
        Expect.equal("the outcome", p.output(2), "[\"3\",\"3\"]");
    }

    private static void rulesOverAndOver() {
        Probe p = new Probe();
        p.step(p.tool(0, 0), 0);
        for (int n = 0; p.x.calls() <= LIMIT - 22; n++) {
            String digit = "" + n % 10;
            Expect.yes("a rule", p.from(0, 0, digit + "$(self)"));
            Expect.yes("an input", p.input(0, digit));
            Expect.equal("it starts", p.x.start(1), 0);
            Expect.equal("the word", p.command(0), "<" + digit + digit + ">");
            Expect.yes("it ends", p.x.finish(0));
        }
    }

    private static void theLastCallIsARuns() {
        for (int last = 0; last < 3; last++) {
            Probe p = new Probe();
            p.tool(1, 0);
            for (int s = 0; s < 6; s++) {
                p.step(0, s == 0 ? 0 : 9 + s);
            }
            while (p.x.calls() < LIMIT - 8 + last) {
                p.x.status();
            }
            Expect.equal("it starts", p.x.start(1), 0);
            for (int n = 0; n < 6 - last; n++) {
                Expect.yes("a job ends", p.x.finish(0));
            }
            Expect.equal("the 512th call", p.x.status(), last == 0 ? 2 : 1);
            Expect.equal("512 calls", p.x.calls(), LIMIT);
        }
    }

    /** What is no number of anything is refused, and nothing is thrown, in each state of a run. */
    private static void strangeArgumentsInEveryState() {
        int[] strange = {LOWEST, LOWEST + 1, -65536, -11, -10, -2, -1, 6, 8, 16, 32, 61, 65536, HIGHEST - 10, HIGHEST - 1,
            HIGHEST};
        for (int state = 0; state < 4; state++) {
            for (int n : strange) {
                Probe p = inState(state);
                String before = p.tell();
                refuseNumber(p, n);
                Expect.equal("nothing has changed in state " + state, p.tell(), before);
            }
        }
    }

    /** Before a run, while one goes on, behind a SUCCESS, behind a failure. */
    private static Probe inState(int state) {
        Probe p = new Probe();
        p.tool(2, 0, 0);
        p.step(0, 0);
        p.step(0, 10);
        p.input(0, state == 3 ? "\"x\"" : "5");
        if (state > 0) {
            p.x.start(1);
        }
        if (state > 1) {
            p.x.finish(0);
            p.x.finish(0);
        }
        Expect.equal("the state", p.x.status(), state);
        return p;
    }

    private static void refuseNumber(Probe p, int n) {
        Expect.equal("tool " + n, p.x.tool(n), -1);
        Expect.equal("port of " + n, p.x.port(n, n, 'a', n), -1);
        Expect.equal("port of style " + n, p.x.port(0, 0, 'a', n), -1);
        Expect.equal("step of " + n, p.x.step(n), -1);
        Expect.no("link of " + n, p.x.link(n, n, n));
        Expect.no("link of step " + n, p.x.link(n, 0, 0));
        Expect.no("link of port " + n, p.x.link(0, n, 0));
        Expect.no("link to " + n, p.x.link(0, 0, n));
        Expect.no("gather of " + n, p.x.gather(n, n, n, n));
        Expect.no("gather of port " + n, p.x.gather(0, n, 0, 0));
        Expect.no("gather with MERGE " + n, p.x.gather(0, 0, n, 0));
        Expect.no("gather with PICK " + n, p.x.gather(0, 0, 0, n));
        Expect.no("preset of " + n, p.preset(n, n, "1"));
        Expect.no("from of " + n, p.from(n, n, "1"));
        Expect.no("when of " + n, p.when(n, "1"));
        Expect.no("scatter of " + n, p.x.scatter(n, n, n));
        Expect.no("scatter with METHOD " + n, p.x.scatter(0, 0, n));
        Expect.no("input " + n, p.input(n, "1"));
        Expect.equal("start " + n, p.x.start(n), -1);
        Expect.no("finish " + n, p.x.finish(n));
        Expect.equal("job " + n, p.x.job(n, n), -1);
        Expect.equal("job 0 " + n, p.x.job(0, n), -1);
        Expect.equal("word " + n, p.x.word(n, n, n), -1);
        Expect.equal("word 0 0 " + n, p.x.word(0, 0, n), -1);
        Expect.equal("word 0 " + n, p.x.word(0, n, 0), -1);
        Expect.equal("state " + n, p.x.state(n), -1);
        Expect.equal("output " + n, p.x.output(n, n), -1);
        Expect.equal("output 0 " + n, p.x.output(0, n), -1);
    }
}
