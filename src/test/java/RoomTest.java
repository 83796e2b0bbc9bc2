import com.sun.management.ThreadMXBean;
import java.lang.management.ManagementFactory;

/**
 * What 512 calls make fits into the room of a run: 600,000 objects and 7.3 million fields and elements.
 * An object takes 16 bytes or more and the least element of the class 2, so that 9 MB are within both.
 */
public final class RoomTest {
    private static final long LIMIT = 9_000_000;
    private static final int CALLS = 512;

    public static void main(String[] args) {
        measure("skipped jobs in lists in lists", RoomTest::skippedJobs);
        measure("jobs with texts by rules", RoomTest::jobsWithRules);
        measure("empty lists in lists", RoomTest::emptyLists);
        measure("jobs that end", RoomTest::endingJobs);
        measure("long drafts", RoomTest::longDrafts);
        measure("new objects alone", RoomTest::newObjects);
        Expect.end();
    }

    private static void measure(String what, Runnable calls) {
        calls.run();
        ThreadMXBean bean = (ThreadMXBean) ManagementFactory.getThreadMXBean();
        long before = bean.getCurrentThreadAllocatedBytes();
        calls.run();
        long taken = bean.getCurrentThreadAllocatedBytes() - before;
        System.out.println(what + ": " + taken + " bytes");
        Expect.yes(what + " fit", taken < LIMIT);
    }

    private static void type(StepRunner x, String draft) {
        for (int i = 0; i < draft.length(); i++) {
            x.write(draft.charAt(i));
        }
    }

    /** Six steps of one tool with so many ports, scattered over all of them with METHOD 2. */
    private static StepRunner sixSteps(int ports, String... inputs) {
        StepRunner x = new StepRunner();
        x.tool(3);
        for (int p = 0; p < ports; p++) {
            x.port(0, 0, (char) 0, 0);
        }
        for (int k = 0; k < inputs.length; k++) {
            type(x, inputs[k]);
            x.input(k);
        }
        for (int s = 0; s < 6; s++) {
            x.step(0);
            for (int p = 0; p < ports; p++) {
                x.link(s, p, Math.min(p, 2));
            }
            x.scatter(s, inputs.length == 3 ? 7 : 3, 2);
        }
        return x;
    }

    private static void startOver(StepRunner x) {
        for (int n = 0; n < CALLS; n++) {
            x.start(1);
        }
    }

    private static void skippedJobs() {
        StepRunner x = sixSteps(3, "[1,1,1,1,1,1,1,1]", "[1,1]", "[1]");
        for (int s = 0; s < 6; s++) {
            type(x, "$(self)");
            x.when(s);
        }
        startOver(x);
    }

    private static void jobsWithRules() {
        StepRunner x = sixSteps(4, "[1,1,1,1,1,1,1,1]", "[1,1]");
        for (int s = 0; s < 6; s++) {
            for (int p = 0; p < 4; p++) {
                type(x, "1234567890123456789012$(inputs.a)");
                x.from(s, p);
            }
            type(x, "$(self)");
            x.when(s);
        }
        startOver(x);
        Expect.equal("all are skipped", x.state(5), 2);
        for (int s = 0; s < 6; s++) {
            type(x, s == 5 ? "$(self[0])" : "1234567890123456789012");
            x.when(s);
        }
        startOver(x);
        Expect.equal("commands were made", x.state(4), 1);
        Expect.equal("and the run failed behind them", x.state(5), 3);
    }

    private static void emptyLists() {
        startOver(sixSteps(3, "[1,1,1,1,1,1,1,1]", "[1,1,1,1,1,1,1,1]", "[]"));
    }

    private static void endingJobs() {
        StepRunner x = new StepRunner();
        x.tool(3);
        x.port(0, 0, (char) 0, 2);
        type(x, "[\"123456789012345678901234\",\"\",\"\",\"\",\"\",\"\",\"\",\"\"]");
        x.input(0);
        for (int s = 0; s < 6; s++) {
            x.step(0);
            x.link(s, 0, 0);
        }
        for (int n = 0; n < CALLS; n++) {
            x.start(3);
            x.finish(0);
            for (int i = 0; i < 90; i++) {
                x.output(0, i);
            }
        }
    }

    private static void longDrafts() {
        StepRunner x = new StepRunner();
        x.tool(0);
        x.step(0);
        for (int n = 0; n < CALLS / 8; n++) {
            type(x, "[[[],[],[],[],[],[],[],[]],[[],[],[],[],[],[],[],[]]]");
            x.input(0);
            type(x, "$(self)$(self)$(self)$(self)$(self)$(self)");
            x.from(0, 0);
            type(x, "");
            x.when(0);
        }
    }

    private static void newObjects() {
        for (int n = 0; n < CALLS; n++) {
            new StepRunner().start(1);
        }
    }
}
