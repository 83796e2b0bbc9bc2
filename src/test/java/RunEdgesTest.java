/**
 * The sentences of promises 13 to 21, and of the section 'Terms' on running, that name an edge: for
 * each the last call that is let through and the first that is not, and that a refused one changes nothing.
 */
public final class RunEdgesTest {
    private static final int LOWEST = Integer.MIN_VALUE;
    private static final int HIGHEST = Integer.MAX_VALUE;
    private static final String LONGEST = "123456789012345678901234";
    private static final int COUNT = 1;
    private static final int SUM = 2;
    private static final int ITEMS = 3;

    public static void main(String[] args) {
        startWorkers();
        startWorkersRefused();
        startWithoutSteps();
        startInPlaceOfAnEarlierRun();
        laterRunsWithFewerJobs();
        startWhileOneGoesOn();
        startWithMissingSteps();
        startWithOneItsOwnSource();
        startWithRounds();
        startWithoutRounds();
        startAnswersInOrder();
        finishEdges();
        finishInTheOrderOfStarting();
        statusOfAll();
        runningEdges();
        startedEdges();
        jobEdges();
        wordEdges();
        wordsAtTheirLimits();
        stateEdges();
        stateWithoutARun();
        stateOfLaterSteps();
        outputEdges();
        outputOfTheLastStep();
        outputOnlyWhenDone();
        outputOfGreatLength();
        allThatCanBeIsExpanded();
        doneAtOnce();
        theLeastIsExpandedFirst();
        theLeastIsSoughtAgain();
        startedInOrder();
        lesserStepsComeFirst();
        asManyAsTheWorkers();
        failedWhileExpanded();
        failedWhileOthersRun();
        failedInAnExpansionBehindAJob();
        failedStepStaysFailed();
        failedOutputs();
        overWhenNoJobRuns();
        anyOrderOfEndings();
        Expect.end();
    }

    /** Five jobs of step 0 and one of step 1, which waits for them. */
    private static Probe fiveJobs() {
        Probe p = new Probe();
        p.tool(COUNT, 0);
        p.step(0, 0);
        p.step(0, 10);
        p.x.scatter(0, 1, 0);
        p.input(0, "[1,2,3,4,5]");
        return p;
    }

    private static void buildSample(Probe p) {
        p.tool(COUNT, 0);
        p.step(0, 0);
        p.step(0, 10);
        p.x.step(0);
        p.x.scatter(0, 1, 0);
        p.input(0, "[1,2]");
    }

    private static void runSample(Probe p) {
        buildSample(p);
        p.runAll();
    }

    private static void beginSample(Probe p) {
        buildSample(p);
        p.x.start(2);
    }

    // ---- 13: "Begins a run with 1 .. 3 workers .. Refused, and an earlier one stays: -1 when .. workers is not so"

    private static void startWorkers() {
        for (int workers = 1; workers <= 3; workers++) {
            Probe p = fiveJobs();
            Expect.equal("13: start(" + workers + ")", p.x.start(workers), 0);
            Expect.equal("13: so many run", p.x.running(), workers);
            Expect.equal("13: it goes on", p.x.status(), 1);
        }
    }

    private static void startWorkersRefused() {
        for (int workers : new int[] {-1, 0, 4, 5, LOWEST, HIGHEST}) {
            String call = "13: start(" + workers + ")";
            Twins.unchanged(call + " on a new object", p -> { }, p -> p.x.start(workers), -1);
            Twins.unchanged(call, RunEdgesTest::buildSample, p -> p.x.start(workers), -1);
            Twins.unchanged(call + " behind a run", RunEdgesTest::runSample, p -> p.x.start(workers), -1);
        }
    }

    /** "0 (without steps it is a SUCCESS at once)" */
    private static void startWithoutSteps() {
        for (int tools = 0; tools <= 4; tools++) {
            Probe p = new Probe();
            for (int n = 0; n < tools; n++) {
                p.tool(n, n);
            }
            Expect.equal("13: without steps", p.x.start(1 + tools % 3), 0);
            Expect.equal("13: a SUCCESS at once", p.x.status(), 2);
            Expect.equal("13: nothing was started", p.x.started(), 0);
            Expect.equal("13: there is no step", p.x.state(0), -1);
        }
        Probe p = new Probe();
        p.tool(COUNT);
        p.x.step(0);
        p.x.start(1);
        Expect.equal("13: with one it is not", p.x.status(), 1);
    }

    /** "Begins a run .. in place of an earlier one" */
    private static void startInPlaceOfAnEarlierRun() {
        for (int end = 2; end <= 3; end++) {
            Probe p = new Probe();
            p.tool(SUM, 0);
            p.step(0, 0);
            p.step(0, 10);
            p.input(0, end == 2 ? "5" : "\"x\"");
            Expect.equal("13: an earlier run", p.runAll(), end);
            p.input(0, "6");
            Expect.equal("13: a later one", p.x.start(1), 0);
            Expect.equal("13: in its place", p.tell(), "status 1, started 1, running 0.0 <6>, step 0 1, step 1 0, "
                + "step 2 -1, step 3 -1, step 4 -1, step 5 -1");
        }
    }

    /** Jobs, words and outputs of an earlier run are gone, also when that had more of them. */
    private static void laterRunsWithFewerJobs() {
        Probe p = new Probe();
        p.tool(ITEMS, 2);
        p.step(0, 0);
        p.x.scatter(0, 1, 0);
        String[] forms = {"[[1,2],[3],[4],[5]]", "[6,7,8]", "[\"\"]", "[]", "[9,9]"};
        String[] outputs = {"[[\"1\",\"2\"],[\"3\"],[\"4\"],[\"5\"]]", "[[\"6\"],[\"7\"],[\"8\"]]", "[[\"\"]]", "[]",
            "[[\"9\"],[\"9\"]]"};
        int[] jobs = {4, 3, 1, 0, 2};
        for (int n = 0; n < forms.length; n++) {
            p.input(0, forms[n]);
            p.x.start(3);
            Expect.equal("13: so many run", p.x.running(), Math.min(3, jobs[n]));
            Expect.equal("13: words of the first", p.x.job(0, 2), n == 0 ? 2 : jobs[n] == 0 ? -1 : 1);
            while (p.x.finish(0)) {
                Expect.equal("13: no more than there are", p.x.started() <= jobs[n], true);
            }
            Expect.equal("13: so many were started", p.x.started(), jobs[n]);
            Expect.equal("13: the output", p.output(0), outputs[n]);
        }
    }

    /** "-1 when one goes on" */
    private static void startWhileOneGoesOn() {
        for (int workers = 0; workers <= 4; workers++) {
            int wanted = workers;
            Twins.unchanged("13: start(" + workers + ") while one goes on", RunEdgesTest::beginSample,
                p -> p.x.start(wanted), -1);
        }
        Probe p = fiveJobs();
        p.x.start(3);
        for (int n = 0; n < 6; n++) {
            Expect.equal("13: one goes on", p.x.start(1), -1);
            p.x.finish(0);
        }
        Expect.equal("13: none goes on", p.x.start(1), 0);
    }

    /** "1 when the step of a source is not there" */
    private static void startWithMissingSteps() {
        for (int steps = 1; steps <= 5; steps++) {
            for (int slot = 0; slot < 12; slot++) {
                int port = slot % 4;
                Probe p = new Probe();
                p.tool(COUNT, 4, 4, 4, 4);
                for (int n = 0; n < steps; n++) {
                    p.x.step(0);
                }
                for (int before = slot / 4; before > 0; before--) {
                    p.x.link(steps - 1, port, 0);
                }
                p.x.link(steps - 1, port, 10 + steps);
                Expect.equal("13: the first step that is not there", p.x.start(1), 1);
                Expect.equal("13: nothing was run", p.x.status(), 0);
                p.x.step(0);
                Expect.equal("13: the last step that is there", p.x.start(1), 0);
            }
        }
        Twins.unchanged("13: a step that is not there", p -> {
            runSample(p);
            p.x.link(0, 0, 15);
        }, p -> p.x.start(1), 1);
    }

    /** "2 when steps are each other's sources round (or one its own)" */
    private static void startWithOneItsOwnSource() {
        for (int s = 0; s < 6; s++) {
            Probe p = new Probe();
            p.tool(COUNT, 0);
            for (int n = 0; n < 6; n++) {
                p.x.step(0);
            }
            p.x.link(s, 0, 10 + s);
            Expect.equal("13: step " + s + " its own source", p.x.start(1), 2);
            Expect.equal("13: nothing was run", p.x.status(), 0);
        }
        Twins.unchanged("13: its own source", p -> {
            runSample(p);
            p.x.link(2, 0, 12);
        }, p -> p.x.start(1), 2);
    }

    private static void startWithRounds() {
        for (int size = 2; size <= 6; size++) {
            for (int turn = 0; turn < 2; turn++) {
                Probe p = new Probe();
                p.tool(COUNT, 4, 0);
                for (int n = 0; n < 6; n++) {
                    p.x.step(0);
                }
                int first = turn == 0 ? 0 : 6 - size;
                int last = first + size - 1;
                for (int n = first; n < last; n++) {
                    p.x.link(turn == 0 ? n : n + 1, n % 2, turn == 0 ? 10 + n + 1 : 10 + n);
                }
                Expect.equal("13: a row of " + size, p.runAll(), 2);
                p.x.link(turn == 0 ? last : first, 1, turn == 0 ? 10 + first : 10 + last);
                Expect.equal("13: a round of " + size, p.x.start(1), 2);
                Expect.equal("13: the earlier one stays", p.x.status(), 2);
                Expect.equal("13: with its states", p.x.state(5), 2);
            }
        }
    }

    private static void startWithoutRounds() {
        Probe p = new Probe();
        p.tool(COUNT, 0, 0, 0, 4);
        for (int n = 0; n < 6; n++) {
            p.x.step(0);
        }
        for (int s = 1; s < 6; s++) {
            for (int source = 0; source < s; source++) {
                p.x.link(s, source % 4, 10 + source);
            }
        }
        Expect.equal("13: each with all before it as sources", p.runAll(), 2);
        Expect.equal("13: six were started", p.x.started(), 6);
        Probe q = new Probe();
        q.tool(COUNT, 0, 0);
        for (int n = 0; n < 6; n++) {
            q.x.step(0);
        }
        for (int n = 0; n < 5; n++) {
            q.x.link(n, 0, 10 + n + 1);
            q.x.link(n, 0, 10 + n + 1);
            q.x.link(n, 1, 15);
        }
        Expect.equal("13: backwards, and some twice", q.runAll(), 2);
    }

    private static void startAnswersInOrder() {
        Probe p = new Probe();
        p.tool(COUNT, 0, 0);
        p.step(0, 10);
        p.x.link(0, 1, 11);
        Expect.equal("13: wrong workers come first", p.x.start(0), -1);
        Expect.equal("13: then a step that is not there", p.x.start(1), 1);
        p.x.step(0);
        Expect.equal("13: then a round", p.x.start(1), 2);
        Expect.equal("13: wrong workers come first", p.x.start(4), -1);
    }

    // ---- 14: "The k-th running job (from 0, in the order in which they were started) ends: true; false when there
    // ---- is none."

    private static void finishEdges() {
        for (int k : new int[] {-1, 2, 3, 4, LOWEST, HIGHEST}) {
            Twins.unchanged("14: finish(" + k + ") of two", RunEdgesTest::beginSample, p -> p.x.finish(k), false);
        }
        for (int k : new int[] {-1, 0, 1, LOWEST, HIGHEST}) {
            Twins.unchanged("14: finish(" + k + ") on a new object", p -> { }, p -> p.x.finish(k), false);
            Twins.unchanged("14: finish(" + k + ") before a run", RunEdgesTest::buildSample, p -> p.x.finish(k), false);
            Twins.unchanged("14: finish(" + k + ") behind a run", RunEdgesTest::runSample, p -> p.x.finish(k), false);
        }
        for (int workers = 1; workers <= 3; workers++) {
            Probe p = fiveJobs();
            p.x.start(workers);
            Expect.no("14: none of that number", p.x.finish(workers));
            Expect.yes("14: the last", p.x.finish(workers - 1));
            Expect.yes("14: the first", p.x.finish(0));
            Expect.no("14: none below", p.x.finish(-1));
        }
        Probe p = fiveJobs();
        p.x.start(3);
        p.x.finish(0);
        p.x.finish(0);
        for (int n = 3; n >= 1; n--) {
            Expect.no("14: none of that number", p.x.finish(n));
            Expect.yes("14: the last of " + n, p.x.finish(n - 1));
        }
    }

    private static void finishInTheOrderOfStarting() {
        Probe p = fiveJobs();
        p.x.start(3);
        Expect.equal("14: at first", p.jobs(), "0.0 0.1 0.2");
        p.x.finish(0);
        Expect.equal("14: without the first", p.jobs(), "0.1 0.2 0.3");
        p.x.finish(1);
        Expect.equal("14: without the second", p.jobs(), "0.1 0.3 0.4");
        p.x.finish(2);
        Expect.equal("14: without the third", p.jobs(), "0.1 0.3");
        p.x.finish(0);
        Expect.equal("14: without the first again", p.jobs(), "0.3");
        p.x.finish(0);
        Expect.equal("14: the next step", p.jobs(), "1.0");
    }

    // ---- 15: "0 before the first run, 1 while one goes on, 2 when it was a SUCCESS, 3 when it has FAILED."

    private static void statusOfAll() {
        Probe p = new Probe();
        Expect.equal("15: a new object", p.x.status(), 0);
        p.tool(SUM, 0);
        p.step(0, 0);
        p.step(0, 10);
        p.input(0, "\"x\"");
        p.x.start(0);
        Expect.equal("15: a refused start is no run", p.x.status(), 0);
        p.x.start(1);
        Expect.equal("15: goes on", p.x.status(), 1);
        p.x.finish(0);
        Expect.equal("15: FAILED", p.x.status(), 3);
        p.x.start(4);
        Expect.equal("15: FAILED still", p.x.status(), 3);
        p.input(0, "5");
        p.x.start(1);
        Expect.equal("15: goes on again", p.x.status(), 1);
        p.x.finish(0);
        Expect.equal("15: goes on with the last", p.x.status(), 1);
        p.x.finish(0);
        Expect.equal("15: SUCCESS", p.x.status(), 2);
        p.x.finish(0);
        Expect.equal("15: SUCCESS still", p.x.status(), 2);
    }

    // ---- 16: "How many jobs run." 17: "How many jobs were started in the run."

    private static void runningEdges() {
        for (int workers = 1; workers <= 3; workers++) {
            Probe p = fiveJobs();
            Expect.equal("16: before", p.x.running(), 0);
            p.x.start(workers);
            for (int ended = 0; ended < 5; ended++) {
                Expect.equal("16: with " + ended + " ended", p.x.running(), Math.min(workers, 5 - ended));
                p.x.finish(0);
            }
            Expect.equal("16: the last", p.x.running(), 1);
            p.x.finish(0);
            Expect.equal("16: none", p.x.running(), 0);
        }
    }

    private static void startedEdges() {
        for (int workers = 1; workers <= 3; workers++) {
            Probe p = fiveJobs();
            Expect.equal("17: before", p.x.started(), 0);
            p.x.start(workers);
            for (int ended = 0; ended < 5; ended++) {
                Expect.equal("17: with " + ended + " ended", p.x.started(), Math.min(5, workers + ended));
                p.x.finish(0);
            }
            Expect.equal("17: the last", p.x.started(), 6);
            p.x.finish(0);
            Expect.equal("17: stays", p.x.started(), 6);
            p.x.start(0);
            Expect.equal("17: stays when a start is refused", p.x.started(), 6);
            p.x.start(1);
            Expect.equal("17: of the new run", p.x.started(), 1);
        }
        Probe p = new Probe();
        p.tool(COUNT, 4, 4);
        for (int s = 0; s < 6; s++) {
            p.step(0, 0, 0);
            p.x.scatter(s, 3, 2);
        }
        p.input(0, "[1,2,3,4]");
        p.x.start(3);
        while (p.x.finish(0)) {
            Expect.equal("17: none is lost", p.x.started() <= 96, true);
        }
        Expect.equal("17: six times 16", p.x.started(), 96);
    }

    // ---- 18: "Of the k-th running job: its step (w = 0), its number (1), how many words its command has (2); -1
    // ---- when there is none, or w is not 0 .. 2."

    private static void jobEdges() {
        Probe p = fiveJobs();
        for (int w = -1; w <= 3; w++) {
            Expect.equal("18: no run", p.x.job(0, w), -1);
        }
        p.x.start(2);
        for (int k = 0; k < 2; k++) {
            Expect.equal("18: step", p.x.job(k, 0), 0);
            Expect.equal("18: number", p.x.job(k, 1), k);
            Expect.equal("18: words", p.x.job(k, 2), 1);
            for (int w : new int[] {-1, 3, LOWEST, HIGHEST}) {
                Expect.equal("18: w = " + w, p.x.job(k, w), -1);
            }
        }
        for (int k : new int[] {-1, 2, 3, LOWEST, HIGHEST}) {
            for (int w = -1; w <= 3; w++) {
                Expect.equal("18: k = " + k, p.x.job(k, w), -1);
            }
        }
        p.x.finish(0);
        p.x.finish(0);
        p.x.finish(0);
        p.x.finish(0);
        Expect.equal("18: the last job", p.x.job(0, 1), 4);
        Expect.equal("18: there is no second", p.x.job(1, 1), -1);
        p.x.finish(0);
        Expect.equal("18: the last step", p.x.job(0, 0), 1);
        p.x.finish(0);
        Expect.equal("18: over", p.x.job(0, 0), -1);
        Probe q = new Probe();
        q.tool(COUNT, 2);
        for (int s = 0; s < 6; s++) {
            q.step(0, 0);
        }
        q.input(0, "[1,2,3,4,5,6,7,8]");
        q.x.start(1);
        for (int s = 0; s < 6; s++) {
            Expect.equal("18: step " + s, q.x.job(0, 0), s);
            Expect.equal("18: eight words", q.x.job(0, 2), 8);
            q.x.finish(0);
        }
        q.input(0, "null");
        q.x.start(1);
        Expect.equal("18: no words", q.x.job(0, 2), 0);
    }

    // ---- 19: "The code of character i of word j of the command of the k-th running job; -1 when there is none."

    private static void wordEdges() {
        Probe p = new Probe();
        p.tool(COUNT, 2);
        p.step(0, 0);
        p.step(0, 1);
        p.input(0, "[\"~ !\",\"\",7]");
        p.input(1, "[null]");
        Expect.equal("19: no run", p.x.word(0, 0, 0), -1);
        p.x.start(2);
        int[][] there = {{0, 0, 0, '~'}, {0, 0, 1, ' '}, {0, 0, 2, '!'}, {0, 2, 0, '7'}, {1, 0, 0, 'n'}, {1, 0, 3, 'l'}};
        for (int[] row : there) {
            Expect.equal("19: a character", p.x.word(row[0], row[1], row[2]), row[3]);
        }
        int[][] none = {
            {0, 0, -1}, {0, 0, 3}, {0, 0, 4}, {0, 0, LOWEST}, {0, 0, HIGHEST}, {0, 1, -1}, {0, 1, 0}, {0, 1, 1}, {0, 2, -1},
            {0, 2, 1}, {0, -1, 0}, {0, 3, 0}, {0, 8, 0}, {0, LOWEST, 0}, {0, HIGHEST, 0}, {-1, 0, 0}, {2, 0, 0}, {3, 0, 0},
            {LOWEST, 0, 0}, {HIGHEST, 0, 0}, {1, 0, 4}, {1, 1, 0}, {1, -1, 0}, {HIGHEST, HIGHEST, HIGHEST},
            {LOWEST, LOWEST, LOWEST},
        };
        for (int[] row : none) {
            Expect.equal("19: word(" + row[0] + ", " + row[1] + ", " + row[2] + ")", p.x.word(row[0], row[1], row[2]), -1);
        }
        p.x.finish(0);
        Expect.equal("19: the other is the first now", p.x.word(0, 0, 0), (int) 'n');
        Expect.equal("19: there is no second", p.x.word(1, 0, 0), -1);
        p.x.finish(0);
        Expect.equal("19: over", p.x.word(0, 0, 0), -1);
    }

    private static void wordsAtTheirLimits() {
        Probe p = new Probe();
        p.tool(COUNT, 2, 2, 2, 2);
        p.step(0, 0, 0, 0, 0);
        p.input(0, "[\"" + LONGEST + "\",\"" + LONGEST + "\"]");
        p.x.start(1);
        Expect.equal("19: eight words of 24", p.command(0), ("<" + LONGEST + ">").repeat(8));
        for (int j = 0; j < 8; j++) {
            Expect.equal("19: the last of word " + j, p.x.word(0, j, 23), (int) '4');
            Expect.equal("19: behind word " + j, p.x.word(0, j, 24), -1);
        }
        Expect.equal("19: no ninth", p.x.word(0, 8, 0), -1);
    }

    // ---- 20: "A step in the latest run: 0 it waits (also when it was made after that run), 1 it is expanded, 2 it is
    // ---- DONE, 3 it has failed; -1 when there was no run, or there is no such step."

    private static void stateEdges() {
        for (int steps = 1; steps <= 6; steps++) {
            Probe p = new Probe();
            p.tool(COUNT);
            for (int s = 0; s < steps; s++) {
                p.x.step(0);
            }
            p.runAll();
            Expect.equal("20: the first step", p.x.state(0), 2);
            Expect.equal("20: the last step", p.x.state(steps - 1), 2);
            for (int step : new int[] {-1, steps, 6, 7, LOWEST, HIGHEST}) {
                Expect.equal("20: state(" + step + ") of " + steps, p.x.state(step), -1);
            }
        }
        Probe p = fiveJobs();
        p.x.start(1);
        for (int n = 0; n < 5; n++) {
            Expect.equal("20: expanded", p.x.state(0), 1);
            Expect.equal("20: waits", p.x.state(1), 0);
            p.x.finish(0);
        }
        Expect.equal("20: DONE", p.x.state(0), 2);
        Expect.equal("20: expanded now", p.x.state(1), 1);
    }

    private static void stateWithoutARun() {
        Probe p = new Probe();
        p.tool(COUNT, 0);
        p.step(0, 10);
        Expect.equal("20: no run", p.x.state(0), -1);
        for (int workers = 0; workers <= 4; workers++) {
            p.x.start(workers);
            Expect.equal("20: no run behind a refused start", p.x.state(0), -1);
        }
        Probe q = new Probe();
        q.x.start(1);
        Expect.equal("20: no step in a run without any", q.x.state(0), -1);
        q.tool(COUNT);
        q.x.step(0);
        Expect.equal("20: made after that run", q.x.state(0), 0);
        Expect.equal("20: no other", q.x.state(1), -1);
    }

    private static void stateOfLaterSteps() {
        for (int end = 2; end <= 3; end++) {
            Probe p = new Probe();
            p.tool(SUM, 0);
            p.step(0, 0);
            p.input(0, end == 2 ? "5" : "\"x\"");
            p.runAll();
            for (int s = 1; s < 6; s++) {
                Expect.equal("20: not made yet", p.x.state(s), -1);
                p.x.step(0);
                Expect.equal("20: made after that run", p.x.state(s), 0);
                Expect.equal("20: the earlier one", p.x.state(0), end);
                Expect.equal("20: no output", p.x.output(s, 0), -1);
            }
            Expect.equal("20: none behind the sixth", p.x.state(6), -1);
            p.runAll();
            Expect.equal("20: in the next run", p.x.state(5), end == 2 ? 2 : 1);
        }
    }

    // ---- 21: "The code of character i of the form of the output of a step that is DONE; -1 when there is none."

    private static void outputEdges() {
        String[] forms = {"null", "0", "-10", "\"\"", "\"a\"", "[]", "[\"a\",\"\"]"};
        for (String form : forms) {
            Probe p = new Probe();
            int kind = form.startsWith("[") ? ITEMS : form.startsWith("\"") ? 0 : SUM;
            p.tool(kind, 2);
            p.step(0, 0);
            p.input(0, form);
            if (form.equals("null")) {
                p.when(0, "$(inputs.a)");
            }
            p.runAll();
            Expect.equal("21: it is DONE", p.x.state(0), 2);
            for (int i = 0; i < form.length(); i++) {
                Expect.equal("21: character " + i + " of " + form, p.x.output(0, i), (int) form.charAt(i));
            }
            for (int i : new int[] {-1, form.length(), form.length() + 1, LOWEST, HIGHEST}) {
                Expect.equal("21: character " + i + " of " + form, p.x.output(0, i), -1);
            }
            for (int step : new int[] {-1, 1, 5, 6, LOWEST, HIGHEST}) {
                Expect.equal("21: of step " + step, p.x.output(step, 0), -1);
            }
        }
    }

    private static void outputOfTheLastStep() {
        for (int steps = 0; steps <= 6; steps++) {
            Probe p = new Probe();
            p.tool(COUNT);
            for (int s = 0; s < steps; s++) {
                p.x.step(0);
            }
            p.runAll();
            Expect.equal("21: the last of " + steps, p.x.output(steps - 1, 0), steps == 0 ? -1 : (int) '0');
            for (int step : new int[] {-1, steps, steps + 1, 6, 7}) {
                Expect.equal("21: step " + step + " of " + steps, p.x.output(step, 0), -1);
            }
        }
    }

    private static void outputOnlyWhenDone() {
        Probe p = new Probe();
        p.tool(SUM, 0);
        p.step(0, 0);
        p.step(0, 10);
        p.step(0, 11);
        p.input(0, "[5,\"x\"]");
        p.from(0, 0, "$(self[0])");
        Expect.equal("21: no run", p.x.output(0, 0), -1);
        p.x.start(1);
        Expect.equal("21: expanded", p.x.output(0, 0), -1);
        Expect.equal("21: waits", p.x.output(1, 0), -1);
        p.x.finish(0);
        Expect.equal("21: DONE", p.output(0), "5");
        p.x.finish(0);
        p.x.finish(0);
        Expect.equal("21: DONE too", p.output(2), "5");
        p.from(0, 0, "$(self[1])");
        p.runAll();
        Expect.equal("21: failed", p.x.output(0, 0), -1);
        Expect.equal("21: waits in the latest run", p.x.output(2, 0), -1);
    }

    /** The greatest output: 16 jobs of ITEMS with long words. */
    private static void outputOfGreatLength() {
        Probe p = new Probe();
        p.tool(ITEMS, 0, 0, 2, 2);
        p.step(0);
        p.preset(0, 0, "[1,2]");
        p.preset(0, 1, "[1,2,3,4,5,6,7,8]");
        p.from(0, 0, "12345678901234567890123$(self)");
        p.from(0, 1, "12345678901234567890123$(self)");
        p.preset(0, 2, "[\"" + LONGEST + "\",\"" + LONGEST + "\",\"x\"]");
        p.preset(0, 3, "[\"" + LONGEST + "\",\"" + LONGEST + "\",\"y\"]");
        p.x.scatter(0, 3, 2);
        Expect.equal("21: it runs", p.runAll(), 2);
        StringBuilder due = new StringBuilder("[");
        for (int n = 0; n < 16; n++) {
            due.append(n == 8 ? "],[" : n == 0 ? "[" : ",").append("[");
            due.append(quoted("12345678901234567890123" + (1 + n / 8))).append(',');
            due.append(quoted("12345678901234567890123" + (1 + n % 8))).append(',');
            due.append(quoted(LONGEST)).append(',').append(quoted(LONGEST)).append(",\"x\",");
            due.append(quoted(LONGEST)).append(',').append(quoted(LONGEST)).append(",\"y\"]");
        }
        due.append("]]");
        Expect.equal("21: behind the end", p.x.output(0, due.length()), -1);
        for (int i = due.length() - 1; i >= 0; i -= 23) {
            Expect.equal("21: character " + i, p.x.output(0, i), (int) due.charAt(i));
        }
        Expect.equal("21: the first", p.x.output(0, 0), (int) '[');
    }

    private static String quoted(String text) {
        return '"' + text + '"';
    }

    // ---- "as long as there is a step that can be expanded and is not, and nothing has failed, the least such one is
    // ---- expanded (it is DONE at once when all its jobs are skipped, or it has none)."

    private static String states(Probe p) {
        StringBuilder all = new StringBuilder();
        for (int s = 0; s < 6; s++) {
            all.append(p.x.state(s));
        }
        return all.toString();
    }

    private static void allThatCanBeIsExpanded() {
        Probe p = new Probe();
        p.tool(COUNT, 0);
        p.step(0, 0);
        p.step(0, 15);
        p.step(0, 1);
        p.step(0, 10);
        p.step(0);
        p.step(0, 14);
        p.x.start(1);
        Expect.equal("all that wait for nothing", states(p), "101010");
        Expect.equal("with one worker", p.jobs(), "0.0");
        p.x.finish(0);
        Expect.equal("what waited for it too", states(p), "201110");
    }

    private static void doneAtOnce() {
        for (int turn = 0; turn < 4; turn++) {
            Probe p = new Probe();
            p.tool(COUNT, 0);
            for (int s = 0; s < 6; s++) {
                int before = turn % 2 == 0 ? s - 1 : s + 1;
                p.step(0, before >= 0 && before < 6 ? 10 + before : 0);
                if (turn < 2) {
                    p.when(s, "$(self)");
                } else {
                    p.preset(s, 0, "[]");
                    p.x.scatter(s, 1, 0);
                }
            }
            Expect.equal("they start", p.x.start(1), 0);
            Expect.equal("all are DONE at once", states(p), "222222");
            Expect.equal("a SUCCESS at once", p.x.status() * 10 + p.x.started(), 20);
            Expect.equal("the output", p.output(5), turn < 2 ? "null" : "[]");
        }
    }

    private static void theLeastIsExpandedFirst() {
        for (int bad = 0; bad < 6; bad++) {
            Probe p = new Probe();
            p.tool(COUNT, 0);
            for (int s = 0; s < 6; s++) {
                p.x.step(0);
            }
            p.from(bad, 0, "$(self[0])");
            p.x.start(3);
            Expect.equal("step " + bad + " fails", states(p), "11111".substring(0, bad) + "3" + "00000".substring(bad));
            Expect.equal("nothing is started", p.x.started(), 0);
            Expect.equal("FAILED at once", p.x.status(), 3);
        }
    }

    /** A step that becomes free while others are expanded comes before greater ones. */
    private static void theLeastIsSoughtAgain() {
        Probe p = new Probe();
        p.tool(COUNT, 0);
        p.step(0, 12);
        p.step(0, 0);
        p.step(0, 0);
        p.step(0, 0);
        p.when(2, "$(self)");
        p.from(0, 0, "$(self[0])");
        p.x.start(1);
        Expect.equal("1, then 2, which is DONE at once, then 0, which fails", states(p), "3120-1-1");
        p.from(0, 0, "x");
        p.from(3, 0, "$(self[0])");
        p.x.start(1);
        Expect.equal("3 comes last", states(p), "1123-1-1");
    }

    // ---- "READY jobs are STARTED, those of lesser steps and of lesser numbers first, as long as fewer than the
    // ---- WORKERS run."

    private static void startedInOrder() {
        for (int workers = 1; workers <= 3; workers++) {
            Probe p = new Probe();
            p.tool(COUNT, 0);
            for (int s = 0; s < 3; s++) {
                p.step(0, 0);
                p.x.scatter(s, 1, 0);
            }
            p.input(0, "[1,2,3]");
            p.x.start(workers);
            for (int n = 0; n < 9; n++) {
                StringBuilder due = new StringBuilder();
                for (int m = n; m < Math.min(9, n + workers); m++) {
                    due.append(m > n ? " " : "").append(m / 3).append('.').append(m % 3);
                }
                Expect.equal("with " + n + " ended", p.jobs(), due.toString());
                p.x.finish(0);
            }
        }
    }

    private static void lesserStepsComeFirst() {
        Probe p = new Probe();
        p.tool(COUNT, 0);
        p.step(0, 11);
        p.step(0, 0);
        p.step(0, 1);
        p.x.scatter(0, 1, 0);
        p.from(1, 0, "x");
        p.x.gather(0, 0, 1, 0);
        p.x.scatter(2, 1, 0);
        p.input(1, "[1,2,3]");
        p.x.start(2);
        Expect.equal("of those that are ready", p.jobs(), "1.0 2.0");
        p.x.finish(0);
        Expect.equal("the lesser step is ready now", p.jobs(), "2.0 0.0");
        p.x.finish(0);
        Expect.equal("then the greater again", p.jobs(), "0.0 2.1");
    }

    private static void asManyAsTheWorkers() {
        for (int workers = 1; workers <= 3; workers++) {
            Probe p = new Probe();
            p.tool(COUNT, 0);
            p.step(0, 0);
            p.step(0, 10);
            p.x.scatter(1, 1, 0);
            p.x.gather(1, 0, 2, 0);
            p.x.link(1, 0, 1);
            p.input(1, "[1,2,3]");
            p.x.start(workers);
            Expect.equal("one is ready", p.x.running(), 1);
            p.x.finish(0);
            Expect.equal("four are ready", p.x.running(), workers);
        }
    }

    // ---- "When something has failed, nothing is expanded or started any more (nor any job of a step that failed
    // ---- while it was expanded); jobs that run go on, and their steps may become DONE, or fail, too."

    private static void failedWhileExpanded() {
        Probe p = new Probe();
        p.tool(COUNT, 0);
        p.step(0, 0);
        p.x.scatter(0, 1, 0);
        p.from(0, 0, "$(self[0])");
        p.input(0, "[[1],[1],[]]");
        p.x.start(3);
        Expect.equal("its first jobs are not started", p.x.started(), 0);
        Expect.equal("nor do they run", p.x.running(), 0);
        Expect.equal("its state", p.x.state(0), 3);
        Expect.equal("FAILED", p.x.status(), 3);
    }

    private static void failedWhileOthersRun() {
        Probe p = new Probe();
        p.tool(SUM, 0);
        p.step(0, 0);
        p.step(0, 1);
        p.x.scatter(1, 1, 0);
        p.step(0, 2);
        p.step(0, 11);
        p.step(0, 1);
        p.input(0, "\"x\"");
        p.input(1, "[1,2]");
        p.from(4, 0, "5");
        p.x.start(3);
        Expect.equal("three run", p.jobs(), "0.0 1.0 1.1");
        p.x.finish(0);
        Expect.equal("none is started", p.jobs(), "1.0 1.1");
        Expect.equal("it goes on", p.x.status(), 1);
        Expect.equal("one has failed", states(p), "31101-1");
        p.x.finish(1);
        Expect.equal("still", states(p), "31101-1");
        p.x.finish(0);
        Expect.equal("another is DONE, and none is expanded", states(p), "32101-1");
        Expect.equal("it is over", p.x.status(), 3);
        Expect.equal("its output", p.output(1), "[1,2]");
        Expect.equal("three were started", p.x.started(), 3);
        p.input(1, "[1,\"y\"]");
        p.x.start(3);
        p.x.finish(0);
        p.x.finish(0);
        p.x.finish(0);
        Expect.equal("two have failed", states(p), "33101-1");
    }

    private static void failedInAnExpansionBehindAJob() {
        Probe p = new Probe();
        p.tool(COUNT, 0);
        p.step(0, 0);
        p.step(0, 10);
        p.step(0, 10);
        p.step(0, 0);
        p.x.scatter(3, 1, 0);
        p.preset(3, 0, "[1,2,3]");
        p.from(1, 0, "$(self[0])");
        p.x.start(2);
        Expect.equal("two run", p.jobs(), "0.0 3.0");
        p.x.finish(0);
        Expect.equal("1 fails, 2 is not expanded", states(p), "2301-1-1");
        Expect.equal("none is started", p.jobs(), "3.0");
        Expect.equal("it goes on", p.x.status(), 1);
        p.x.finish(0);
        Expect.equal("over", p.x.status(), 3);
        Expect.equal("a step with ready jobs is not DONE", states(p), "2301-1-1");
        Expect.equal("two were started", p.x.started(), 2);
    }

    private static void failedStepStaysFailed() {
        for (int bad = 0; bad < 3; bad++) {
            String[] items = {"1", "2", "3"};
            items[bad] = "\"x\"";
            for (int first = 0; first < 3; first++) {
                Probe p = new Probe();
                p.tool(SUM, 0);
                p.step(0, 0);
                p.x.scatter(0, 1, 0);
                p.input(0, "[" + String.join(",", items) + "]");
                p.x.start(3);
                p.x.finish(first);
                Expect.equal("failed at once, or not yet", p.x.state(0), first == bad ? 3 : 1);
                p.x.finish(1);
                p.x.finish(0);
                Expect.equal("failed at the end", p.x.state(0) * 10 + p.x.status(), 33);
                Expect.equal("all ended", p.x.running(), 0);
            }
        }
    }

    /** A step whose output is no value fails when its last job ends, and what waits for it stays. */
    private static void failedOutputs() {
        Probe p = new Probe();
        p.tool(COUNT, 0, 0);
        p.step(0, 0, 0);
        p.x.scatter(0, 3, 1);
        p.step(0, 10);
        p.step(0);
        p.input(0, "[1,2,3]");
        p.x.start(1);
        for (int n = 0; n < 9; n++) {
            Expect.equal("not yet", states(p), "101-1-1-1");
            p.x.finish(0);
        }
        Expect.equal("failed", states(p), "301-1-1-1");
        Expect.equal("over", p.x.status() * 10 + p.x.running(), 30);
        Expect.equal("nine were started", p.x.started(), 9);
    }

    // ---- "When no job runs, the run is over: it has FAILED if something failed, else it is a SUCCESS."

    private static void overWhenNoJobRuns() {
        for (int workers = 1; workers <= 3; workers++) {
            for (int bad = -1; bad < 3; bad++) {
                Probe p = new Probe();
                p.tool(SUM, 0);
                for (int s = 0; s < 3; s++) {
                    p.step(0, 0);
                    p.from(s, 0, s == bad ? "x" : "1");
                }
                p.x.start(workers);
                for (int n = 0; n < 4 && p.x.running() > 0; n++) {
                    Expect.equal("goes on while a job runs", p.x.status(), 1);
                    p.x.finish(0);
                }
                Expect.equal("over", p.x.status(), bad < 0 ? 2 : 3);
                Expect.equal("so many were started", p.x.started(), bad < 0 ? 3 : Math.min(3, bad + workers));
            }
        }
    }

    // ---- "whatever order the jobs end in, the outcome is the same"

    private static int orders;

    private static void anyOrderOfEndings() {
        for (int workers = 1; workers <= 3; workers++) {
            orders = 0;
            endInEveryOrder(workers, new int[7], 0);
            Expect.yes("there are many orders", orders >= (workers == 1 ? 1 : workers == 2 ? 32 : 100));
        }
    }

    private static void endInEveryOrder(int workers, int[] ends, int count) {
        Probe p = new Probe();
        p.tool(ITEMS, 0, 0);
        p.tool(SUM, 2);
        p.step(1, 13);
        p.step(0, 0, 1);
        p.x.scatter(1, 3, 2);
        p.step(1, 0);
        p.step(1, 12);
        p.x.link(3, 0, 0);
        p.x.gather(3, 0, 2, 0);
        p.input(0, "[1,2]");
        p.input(1, "[8,9]");
        p.x.start(workers);
        for (int n = 0; n < count; n++) {
            p.x.finish(ends[n]);
        }
        int running = p.x.running();
        if (running == 0 || count == ends.length) {
            orders++;
            Expect.equal("all have ended", p.x.status() * 10 + p.x.started(), 27);
            Expect.equal("the outcome", p.output(0) + p.output(1) + p.output(2) + p.output(3),
                "6[[[\"1\",\"8\"],[\"1\",\"9\"]],[[\"2\",\"8\"],[\"2\",\"9\"]]]36");
            return;
        }
        for (int k = 0; k < running; k++) {
            ends[count] = k;
            endInEveryOrder(workers, ends, count + 1);
        }
    }
}
