/**
 * The sentences of the section 'Terms' on the expansion of a step: merging, picking, presets,
 * scattering, the number of jobs, rules and WHEN, each at its edges.
 */
public final class ExpansionEdgesTest {
    private static final String EIGHT = "[1,2,3,4,5,6,7,8]";
    private static final String FAILS = "fails";
    private static final String SKIPS = "skips";

    public static void main(String[] args) {
        absentPortsCountForNothing();
        absentPortsInWhatStartAnswers();
        portsMadeBehindARun();
        expandedWhenAllSourcesAreDone();
        withoutSources();
        oneSource();
        moreSources();
        flatSources();
        mergedMustBeAValue();
        pickNeedsAList();
        pickFirst();
        pickOnly();
        pickAll();
        gatheredAnew();
        presetOfNull();
        scatteredMustBeLists();
        scatteredOverAbsentPorts();
        lengthsOfMethod0();
        jobsOfTwoPorts();
        jobsOfThreePorts();
        jobsOfFourPorts();
        jobsThatAreSkippedCount();
        orderOfJobs();
        elementsOfJobs();
        rulesWorkOnTheValuesBefore();
        everyJobsRulesMustWork();
        whenSeesTheNewValues();
        whenSkips();
        skippedJobsHaveNoCommand();
        someJobsAreSkipped();
        Expect.end();
    }

    /** The command of the one job of step 0, or that it fails or skips. */
    private static String begun(Probe p) {
        Expect.equal("start(1)", p.x.start(1), 0);
        if (p.x.status() == 1) {
            Expect.equal("a step with a job is expanded", p.x.state(0), 1);
            return p.command(0);
        }
        Expect.equal("nothing was started", p.x.started(), 0);
        Expect.equal("the state is like the status", p.x.state(0), p.x.status());
        return p.x.status() == 3 ? FAILS : SKIPS;
    }

    // ---- "What a step has for a port that its tool does not have (when a run begins) counts for nothing, in what
    // ---- start() answers either."

    private static void absentPortsCountForNothing() {
        for (int ports = 0; ports < 4; ports++) {
            for (int port = ports; port < 4; port++) {
                Probe p = new Probe();
                p.step(p.tool(1, new int[ports]));
                p.x.link(0, port, 0);
                p.x.gather(0, port, 0, 1);
                p.from(0, port, "$(self[0])");
                p.preset(0, port, "5");
                p.x.scatter(0, 1 << port, 0);
                Expect.equal("port " + port + " of " + ports + " counts for nothing", begun(p), "");
                p.x.finish(0);
                Expect.equal("the step is done", p.output(0), "0");
                for (int n = ports; n < port; n++) {
                    p.x.port(0, 0, (char) 0, 0);
                    Expect.equal("nor does it behind other ports", begun(p), "");
                    p.x.finish(0);
                }
                p.x.port(0, 0, (char) 0, 0);
                Expect.equal("port " + port + " is there: it cannot be picked from NULL", begun(p), FAILS);
                p.x.gather(0, port, 0, 0);
                Expect.equal("nor scattered over 5", begun(p), FAILS);
                p.x.scatter(0, 0, 0);
                Expect.equal("nor has 5 elements", begun(p), FAILS);
                p.from(0, port, "$(self)");
                Expect.equal("it has its preset", begun(p), "<5>");
                p.x.finish(0);
                p.input(0, "6");
                Expect.equal("it has its source", begun(p), "<6>");
            }
        }
    }

    private static void absentPortsInWhatStartAnswers() {
        for (int port = 0; port < 4; port++) {
            for (int source = 10; source <= 15; source++) {
                Probe p = new Probe();
                p.step(p.tool(0, new int[port]));
                p.x.link(0, port, source);
                Expect.equal("source " + source + " of the absent port " + port, p.x.start(1), 0);
                p.x.finish(0);
                p.x.port(0, 0, (char) 0, 0);
                Expect.equal("source " + source + " of port " + port, p.x.start(1), source == 10 ? 2 : 1);
            }
        }
    }

    private static void portsMadeBehindARun() {
        Probe p = new Probe();
        p.tool(1);
        p.step(0, 11);
        p.step(0, 10);
        Expect.equal("they wait for none", p.runAll(), 2);
        p.x.port(0, 0, (char) 0, 0);
        Expect.equal("what was run stays", p.x.status(), 2);
        Expect.equal("with its output", p.output(0), "0");
        Expect.equal("now they wait for each other", p.x.start(1), 2);
        Expect.equal("and the earlier run is told", p.output(1), "0");
    }

    // ---- "A STEP IS EXPANDED when all steps that are among its sources are DONE."

    private static void expandedWhenAllSourcesAreDone() {
        Probe p = new Probe();
        p.tool(1);
        p.tool(3, 2, 2);
        p.step(1, 11, 13);
        p.x.link(0, 0, 12);
        for (int n = 1; n < 4; n++) {
            p.step(0);
        }
        p.x.start(3);
        for (int n = 0; n < 3; n++) {
            Expect.equal("it waits for " + (3 - n), p.x.state(0), 0);
            Expect.yes("one ends", p.x.finish(Math.max(0, 1 - n)));
        }
        Expect.equal("all are done", p.x.state(0), 1);
        Expect.equal("its command", p.command(0), "<0><0><0>");
        Probe q = new Probe();
        q.tool(1, 0);
        q.step(0, 0);
        q.x.scatter(0, 1, 0);
        q.step(0, 10);
        q.input(0, "[1,2]");
        q.x.start(3);
        q.x.finish(0);
        Expect.equal("a source of which one job runs is not done", q.x.state(1), 0);
        q.x.finish(0);
        Expect.equal("now it is", q.x.state(1), 1);
    }

    /** A step with one port, of which the first inputs are the sources. */
    private static Probe gathering(int merge, int pick, String... forms) {
        Probe p = new Probe();
        p.step(p.tool(1, 0));
        for (int k = 0; k < forms.length; k++) {
            p.x.link(0, 0, k);
            p.input(k, forms[k]);
        }
        p.x.gather(0, 0, merge, pick);
        return p;
    }

    private static String gathered(int merge, int pick, String... forms) {
        return begun(gathering(merge, pick, forms));
    }

    /** "without sources NULL" */
    private static void withoutSources() {
        for (int merge = 0; merge <= 2; merge++) {
            Expect.equal("no sources, MERGE " + merge, gathered(merge, 0), "");
            Probe p = gathering(merge, 0);
            p.from(0, 0, "<$(self)>");
            Expect.equal("that is NULL", begun(p), "<<null>>");
        }
    }

    /** "with one, and MERGE 0, its value; otherwise the list of .. (MERGE 0 or 1), or with MERGE 2 .." */
    private static void oneSource() {
        String[][] rows = {
            {"null", "", "<[null]>", "<[null]>"}, {"5", "<5>", "<[5]>", "<[5]>"}, {"\"\"", "<>", "<[\"\"]>", "<[\"\"]>"},
            {"[]", "", "<[[]]>", ""}, {"[5]", "<[5]>", "<[[5]]>", "<[5]>"}, {"[[5]]", "<[[5]]>", "<[[[5]]]>", "<[[5]]>"},
            {"[null,[]]", "<[null,[]]>", "<[[null,[]]]>", "<[null,[]]>"},
        };
        for (String[] row : rows) {
            for (int merge = 0; merge <= 2; merge++) {
                Expect.equal("MERGE " + merge + " of " + row[0], gathered(merge, 0, row[0]), row[merge + 1]);
            }
        }
    }

    private static void moreSources() {
        for (int merge = 0; merge <= 1; merge++) {
            Expect.equal("two", gathered(merge, 0, "1", "[2]"), "<[1,[2]]>");
            Expect.equal("two that are NULL", gathered(merge, 0, "null", "null"), "<[null,null]>");
            Expect.equal("two that are empty", gathered(merge, 0, "[]", "\"\""), "<[[],\"\"]>");
            Expect.equal("three", gathered(merge, 0, "1", "[2]", "\"3\""), "<[1,[2],\"3\"]>");
        }
        Probe p = new Probe();
        p.step(p.tool(1, 0), 2);
        p.x.link(0, 0, 0);
        p.x.link(0, 0, 2);
        p.input(0, "1");
        p.input(2, "3");
        Expect.equal("in the order of the links, one of them twice", begun(p), "<[3,1,3]>");
    }

    private static void flatSources() {
        Expect.equal("none is a list", gathered(2, 0, "1", "null", "\"\""), "<[1,null,\"\"]>");
        Expect.equal("one is a list", gathered(2, 0, "1", "[2,3]", "4"), "<[1,2,3,4]>");
        Expect.equal("all are lists", gathered(2, 0, "[1]", "[]", "[4,5]"), "<[1,4,5]>");
        Expect.equal("all are empty", gathered(2, 0, "[]", "[]", "[]"), "");
        Expect.equal("only their elements, not those of these", gathered(2, 0, "[[1]]", "[[2],3]"), "<[[1],[2],3]>");
    }

    /** "That must be a value (else it fails)." */
    private static void mergedMustBeAValue() {
        for (int merge = 0; merge <= 1; merge++) {
            Expect.equal("three deep", gathered(merge, 0, "1", "[[2]]"), "<[1,[[2]]]>");
            Expect.equal("four deep", gathered(merge, 0, "1", "[[[2]]]"), FAILS);
            Expect.equal("four deep, empty", gathered(merge, 0, "[[[]]]", "1"), FAILS);
        }
        Expect.equal("one, three deep, MERGE 0", gathered(0, 0, "[[[2]]]"), "<[[[2]]]>");
        Expect.equal("one, three deep then, MERGE 1", gathered(1, 0, "[[2]]"), "<[[[2]]]>");
        Expect.equal("one, four deep then, MERGE 1", gathered(1, 0, "[[[2]]]"), FAILS);
        Expect.equal("one, three deep still, MERGE 2", gathered(2, 0, "[[[2]]]"), "<[[[2]]]>");
        Expect.equal("three deep, MERGE 2", gathered(2, 0, "[[[2]]]", "[[[3]]]"), "<[[[2]],[[3]]]>");
        Expect.equal("eight, MERGE 2", gathered(2, 0, "[1,2,3]", "[4,5,6,7]", "8"), "<" + EIGHT + ">");
        Expect.equal("eight and none", gathered(2, 0, EIGHT, "[]", "[]"), "<" + EIGHT + ">");
        Expect.equal("none and eight", gathered(2, 0, "[]", EIGHT), "<" + EIGHT + ">");
        Expect.equal("nine by one, MERGE 2", gathered(2, 0, EIGHT, "9"), FAILS);
        Expect.equal("nine by NULL, MERGE 2", gathered(2, 0, EIGHT, "null"), FAILS);
        Expect.equal("nine by a list, MERGE 2", gathered(2, 0, "[1,2,3]", "[4,5,6]", "[7,8,9]"), FAILS);
        Expect.equal("24, MERGE 2", gathered(2, 0, EIGHT, EIGHT, EIGHT), FAILS);
        Expect.equal("24 in eights, MERGE 1", begun(hidden(gathering(1, 0, EIGHT, EIGHT, EIGHT))), "<3>");
        for (int pick = 1; pick <= 3; pick++) {
            Expect.equal("too long, whatever is picked", gathered(2, pick, EIGHT, "null"), FAILS);
            Expect.equal("too deep, whatever is picked", gathered(1, pick, "[[[]]]", "null"), FAILS);
        }
    }

    /** The command tells the length alone, for lists that would be too long a word. */
    private static Probe hidden(Probe p) {
        p.from(0, 0, "$(self.length)");
        return p;
    }

    /** "Then, when PICK is not 0 and this is a list (else it fails)" */
    private static void pickNeedsAList() {
        for (int pick = 1; pick <= 3; pick++) {
            for (String form : new String[] {"null", "0", "5", "\"\"", "\"a\""}) {
                Expect.equal("PICK " + pick + " of " + form, gathered(0, pick, form), FAILS);
                boolean none = form.equals("null");
                Expect.equal("PICK " + pick + " of a list of " + form, gathered(1, pick, form).equals(FAILS),
                    none && pick < 3);
            }
            Expect.equal("PICK " + pick + " of no source", gathered(0, pick), FAILS);
            Expect.equal("PICK " + pick + " of no source, MERGE 1", gathered(1, pick), FAILS);
            Expect.equal("PICK " + pick + " of no source, MERGE 2", gathered(2, pick), FAILS);
            Probe p = gathering(0, pick, "null");
            p.preset(0, 0, "[5]");
            Expect.equal("the preset comes behind the pick", begun(p), FAILS);
        }
        Expect.equal("PICK 0 of what is no list", gathered(0, 0, "5"), "<5>");
    }

    /** "1 its first element that is not NULL (fails when there is none)" */
    private static void pickFirst() {
        Expect.equal("the first of one", gathered(0, 1, "[5]"), "<5>");
        Expect.equal("the first of two", gathered(0, 1, "[5,6]"), "<5>");
        Expect.equal("behind NULL", gathered(0, 1, "[null,6,7]"), "<6>");
        Expect.equal("the last of eight", gathered(0, 1, "[null,null,null,null,null,null,null,8]"), "<8>");
        Expect.equal("0 is not NULL", gathered(0, 1, "[0,5]"), "<0>");
        Expect.equal("an empty text is not NULL", gathered(0, 1, "[null,\"\",5]"), "<>");
        Expect.equal("an empty list is not NULL", gathered(0, 1, "[null,[],5]"), "");
        Expect.equal("none of none", gathered(0, 1, "[]"), FAILS);
        Expect.equal("none of one", gathered(0, 1, "[null]"), FAILS);
        Expect.equal("none of eight", gathered(0, 1, "[null,null,null,null,null,null,null,null]"), FAILS);
        Expect.equal("of three sources", gathered(0, 1, "null", "null", "3"), "<3>");
        Expect.equal("none of three sources", gathered(0, 1, "null", "null", "null"), FAILS);
    }

    /** "2 the one that is not NULL (fails unless there is just one)" */
    private static void pickOnly() {
        Expect.equal("one of one", gathered(0, 2, "[5]"), "<5>");
        Expect.equal("the first", gathered(0, 2, "[5,null]"), "<5>");
        Expect.equal("the last", gathered(0, 2, "[null,null,5]"), "<5>");
        Expect.equal("none of none", gathered(0, 2, "[]"), FAILS);
        Expect.equal("none of two", gathered(0, 2, "[null,null]"), FAILS);
        Expect.equal("two", gathered(0, 2, "[5,6]"), FAILS);
        Expect.equal("two alike", gathered(0, 2, "[5,null,5]"), FAILS);
        Expect.equal("eight", gathered(0, 2, EIGHT), FAILS);
        Expect.equal("0 is one", gathered(0, 2, "[0,5]"), FAILS);
        Expect.equal("an empty text is one", gathered(0, 2, "[null,\"\"]"), "<>");
        Expect.equal("an empty list is one", gathered(0, 2, "[[],5]"), FAILS);
        Expect.equal("one of three sources", gathered(0, 2, "null", "[1,2]", "null"), "<[1,2]>");
        Expect.equal("the elements of it are two", gathered(2, 2, "null", "[1,2]", "null"), FAILS);
    }

    /** "3 the list of all those (perhaps empty)" */
    private static void pickAll() {
        Expect.equal("none of none", gathered(0, 3, "[]"), "");
        Expect.equal("none of one", gathered(0, 3, "[null]"), "");
        Expect.equal("the empty list is a list", begun(hidden(gathering(0, 3, "[null]"))), "<0>");
        Expect.equal("one", gathered(0, 3, "[null,5,null]"), "<[5]>");
        Expect.equal("eight", gathered(0, 3, EIGHT), "<" + EIGHT + ">");
        Expect.equal("0, empty texts and lists stay", gathered(0, 3, "[0,\"\",null,[],[null]]"), "<[0,\"\",[],[null]]>");
        Probe p = gathering(0, 3, "[null]");
        p.preset(0, 0, "5");
        Expect.equal("the empty list is not NULL for the preset", begun(p), "");
        p.x.finish(0);
        p.x.scatter(0, 1, 0);
        Expect.equal("and has no jobs", begun(p), SKIPS);
        Expect.equal("its output", p.output(0), "[]");
    }

    /** What an earlier expansion merged or picked is not there in a later one. */
    private static void gatheredAnew() {
        for (int pick = 0; pick <= 3; pick += 3) {
            for (int merge = 1; merge <= 2; merge++) {
                Probe p = gathering(merge, pick, "1", "2", "3");
                Expect.equal("three", begun(p), "<[1,2,3]>");
                p.x.finish(0);
                p.x.step(0);
                p.x.link(1, 0, 1);
                p.x.gather(1, 0, merge, pick);
                p.from(0, 0, "$(self)");
                p.x.start(1);
                Expect.equal("three in the first step", p.command(0), "<[1,2,3]>");
                p.x.finish(0);
                Expect.equal("one in the second", p.command(0), "<[2]>");
                p.x.finish(0);
                p.from(1, 0, "$(self[1])");
                p.x.start(1);
                Expect.equal("it has no second element", p.x.status() * 10 + p.x.state(1), 33);
                p.from(1, 0, "$(self.length)");
                p.x.start(1);
                p.x.finish(0);
                Expect.equal("its length", p.command(0), "<1>");
            }
        }
        for (int pick = 1; pick <= 2; pick++) {
            Probe p = gathering(0, pick, "[null,1]");
            for (int n = 1; n <= 3; n++) {
                Expect.equal("again and again", begun(p), "<1>");
                p.x.finish(0);
            }
            p.input(0, "[null,2]");
            Expect.equal("another", begun(p), "<2>");
            p.x.finish(0);
            p.input(0, "[null]");
            Expect.equal("none", begun(p), FAILS);
        }
    }

    /** "What is NULL now becomes the preset, if there is one." */
    private static void presetOfNull() {
        String[][] rows = {
            {"null", "<7>"}, {"0", "<0>"}, {"\"\"", "<>"}, {"[]", ""}, {"[null]", "<[null]>"}, {"\"null\"", "<null>"},
        };
        for (String[] row : rows) {
            Probe p = gathering(0, 0, row[0]);
            p.preset(0, 0, "7");
            Expect.equal("the preset of " + row[0], begun(p), row[1]);
        }
        Probe p = gathering(0, 0);
        p.preset(0, 0, "7");
        Expect.equal("the preset without sources", begun(p), "<7>");
        p.x.finish(0);
        p.from(0, 0, "$(self)!");
        Expect.equal("the rule works on it", begun(p), "<7!>");
        p.x.finish(0);
        p.preset(0, 0, "[8,null]");
        p.x.scatter(0, 1, 0);
        Expect.equal("it is scattered over", begun(p), "<8!>");
        p.x.finish(0);
        Expect.equal("its elements get none", p.command(0), "<null!>");
    }

    /** "the value of each such port must be a list (else it fails)" */
    private static void scatteredMustBeLists() {
        for (int method = 0; method <= 2; method++) {
            for (String form : new String[] {"null", "0", "5", "\"\"", "\"[1]\""}) {
                Probe p = gathering(0, 0, form);
                p.x.scatter(0, 1, method);
                Expect.equal("scattered over " + form, begun(p), FAILS);
                Expect.equal("beside a list", countOf(method, form, "[1]"), FAILS);
                Expect.equal("behind a list", countOf(method, "[1]", form), FAILS);
                Expect.equal("behind an empty list", countOf(method, "[]", form), FAILS);
                Expect.equal("before an empty list", countOf(method, form, "[]"), FAILS);
            }
            Probe p = gathering(0, 0, "[5]");
            p.x.scatter(0, 1, method);
            Expect.equal("scattered over [5]", begun(p), "<5>");
        }
        Probe p = new Probe();
        p.step(p.tool(1, 0, 0), 0, 1);
        p.input(0, "[5]");
        p.input(1, "6");
        p.x.scatter(0, 1, 0);
        Expect.equal("other ports need be none", begun(p), "<5><6>");
    }

    /** "(over ports that the tool has; others do not count)" */
    private static void scatteredOverAbsentPorts() {
        for (int ports = 0; ports <= 4; ports++) {
            for (int bits = 0; bits <= 15; bits++) {
                for (int method = 0; method <= 2; method++) {
                    Probe p = new Probe();
                    p.step(p.tool(1, new int[ports]));
                    for (int port = 0; port < ports; port++) {
                        p.x.link(0, port, 0);
                    }
                    p.input(0, "[5]");
                    p.x.scatter(0, bits, method);
                    int there = Integer.bitCount(bits & (1 << ports) - 1);
                    Expect.equal("it runs", p.runAll(), method == 2 && there == 4 ? 3 : 2);
                    int deep = method == 2 ? there : Math.min(there, 1);
                    String due = "[".repeat(deep) + ports + "]".repeat(deep);
                    Expect.equal("bits " + bits + " of " + ports + " ports", p.output(0), deep == 4 ? null : due);
                }
            }
        }
    }

    private static String listOf(int count) {
        return count == 0 ? "[]" : EIGHT.substring(0, 2 * count) + "]";
    }

    /** How many jobs are started of a step that is scattered over ports with these values; or that it fails. */
    private static String countOf(int method, String... forms) {
        Probe p = new Probe();
        p.step(p.tool(1, new int[forms.length]));
        for (int port = 0; port < forms.length; port++) {
            p.preset(0, port, forms[port]);
        }
        p.x.scatter(0, (1 << forms.length) - 1, method);
        p.x.start(3);
        if (p.x.status() == 3) {
            Expect.equal("it failed while it was expanded", p.x.started() * 10 + p.x.state(0), 3);
            return FAILS;
        }
        for (int n = 0; n < 20; n++) {
            p.x.finish(0);
        }
        Expect.equal("no job is left", p.x.running(), 0);
        return "" + p.x.started();
    }

    /** "METHOD 0: all of the same length (else it fails)" */
    private static void lengthsOfMethod0() {
        for (int a = 0; a <= 8; a++) {
            Expect.equal("METHOD 0 of " + a, countOf(0, listOf(a)), "" + a);
            for (int b = 0; b <= 8; b++) {
                String due = a == b ? "" + a : FAILS;
                Expect.equal("METHOD 0 of " + a + " and " + b, countOf(0, listOf(a), listOf(b)), due);
                Expect.equal("the third unlike", countOf(0, listOf(a), listOf(a), listOf(b)), due);
                Expect.equal("the second unlike", countOf(0, listOf(a), listOf(b), listOf(a)), due);
                Expect.equal("the fourth unlike", countOf(0, listOf(a), listOf(a), listOf(a), listOf(b)), due);
            }
        }
    }

    private static String jobsDue(int product) {
        return product <= 16 ? "" + product : FAILS;
    }

    /** "METHOD 1 and 2: a job for each choice of one element of each"; "More than 16 jobs fail." */
    private static void jobsOfTwoPorts() {
        for (int method = 1; method <= 2; method++) {
            for (int a = 0; a <= 8; a++) {
                Expect.equal("METHOD " + method + " of " + a, countOf(method, listOf(a)), "" + a);
                for (int b = 0; b <= 8; b++) {
                    Expect.equal("METHOD " + method + " of " + a + " and " + b,
                        countOf(method, listOf(a), listOf(b)), jobsDue(a * b));
                }
            }
        }
    }

    private static void jobsOfThreePorts() {
        for (int a = 0; a <= 8; a++) {
            for (int b = 0; b <= 8; b++) {
                for (int c = 0; c <= 8; c++) {
                    for (int method = 1; method <= 2; method++) {
                        Expect.equal("METHOD " + method + " of " + a + ", " + b + " and " + c,
                            countOf(method, listOf(a), listOf(b), listOf(c)), jobsDue(a * b * c));
                    }
                }
            }
        }
    }

    private static void jobsOfFourPorts() {
        int[][] rows = {
            {2, 2, 2, 2}, {1, 1, 1, 1}, {1, 1, 2, 8}, {8, 2, 1, 1}, {4, 1, 4, 1}, {1, 2, 2, 4}, {3, 3, 1, 2}, {2, 2, 2, 3},
            {1, 1, 1, 8}, {1, 3, 5, 1}, {1, 3, 6, 1}, {8, 8, 8, 8}, {8, 8, 8, 0}, {0, 8, 8, 8}, {8, 0, 8, 8}, {8, 8, 0, 8},
        };
        for (int[] row : rows) {
            String due = jobsDue(row[0] * row[1] * row[2] * row[3]);
            Expect.equal("METHOD 1 of four ports",
                countOf(1, listOf(row[0]), listOf(row[1]), listOf(row[2]), listOf(row[3])), due);
        }
    }

    private static void jobsThatAreSkippedCount() {
        for (int second = 4; second <= 5; second++) {
            Probe p = new Probe();
            p.step(p.tool(1, 0, 0), 0, 1);
            p.input(0, listOf(4));
            p.input(1, listOf(second));
            p.x.scatter(0, 3, 2);
            p.when(0, "$(self)");
            Expect.equal("4 times " + second + " that are skipped", begun(p), second == 4 ? SKIPS : FAILS);
        }
    }

    /** "the last port's changing fastest"; "Jobs are numbered 0, 1, .. in this order." */
    private static void orderOfJobs() {
        String[] forms = {"[0,1]", "[2,3,4]", "[5,6]"};
        for (int method = 1; method <= 2; method++) {
            Probe p = new Probe();
            p.step(p.tool(1, 0, 0, 0), 0, 1, 2);
            for (int k = 0; k < 3; k++) {
                p.input(k, forms[k]);
            }
            p.x.scatter(0, 7, method);
            p.x.start(1);
            for (int n = 0; n < 12; n++) {
                Expect.equal("the number", p.x.job(0, 1), n);
                String due = "<" + n / 6 + "><" + (2 + n / 2 % 3) + "><" + (5 + n % 2) + ">";
                Expect.equal("job " + n + " of METHOD " + method, p.command(0), due);
                p.x.finish(0);
            }
        }
        Probe p = new Probe();
        p.step(p.tool(1, 0, 0, 0), 0, 1, 0);
        p.input(0, "[0,1]");
        p.input(1, "[2,3]");
        p.x.scatter(0, 3, 0);
        p.x.start(1);
        for (int n = 0; n < 2; n++) {
            Expect.equal("the number", p.x.job(0, 1), n);
            Expect.equal("METHOD 0: the elements " + n, p.command(0), "<" + n + "><" + (2 + n) + "><[0,1]>");
            p.x.finish(0);
        }
        Expect.equal("METHOD 0: no more", p.x.status(), 2);
    }

    /** Ports between the scattered ones keep their whole values. */
    private static void elementsOfJobs() {
        Probe p = new Probe();
        p.step(p.tool(1, 0, 0, 0, 0), 0, 1, 0, 1);
        p.input(0, "[1,2]");
        p.input(1, "[3,4]");
        p.x.scatter(0, 9, 1);
        p.x.start(1);
        String[] due = {"<1><[3,4]><[1,2]><3>", "<1><[3,4]><[1,2]><4>", "<2><[3,4]><[1,2]><3>", "<2><[3,4]><[1,2]><4>"};
        for (int n = 0; n < 4; n++) {
            Expect.equal("job " + n, p.command(0), due[n]);
            p.x.finish(0);
        }
    }

    /** "self being the port's value in this job (all inputs. are those before any of these rules)" */
    private static void rulesWorkOnTheValuesBefore() {
        Probe p = new Probe();
        p.step(p.tool(1, 0, 0, 0), 0, 1, 2);
        p.input(0, "[1,2]");
        p.input(1, "[3,4]");
        p.input(2, "\"c\"");
        p.x.scatter(0, 3, 0);
        p.from(0, 0, "$(inputs.b)$(inputs.c)");
        p.from(0, 1, "$(inputs.a)$(self)");
        p.from(0, 2, "$(self)$(inputs.a)$(inputs.b)");
        p.x.start(1);
        Expect.equal("job 0", p.command(0), "<3c><13><c13>");
        p.x.finish(0);
        Expect.equal("job 1", p.command(0), "<4c><24><c24>");
    }

    /** A rule that fails in one job fails the step, and none of its jobs is started. */
    private static void everyJobsRulesMustWork() {
        for (int bad = 0; bad < 4; bad++) {
            String[] items = {"[1]", "[1]", "[1]", "[1]"};
            items[bad] = "[]";
            Probe p = gathering(0, 0, "[" + String.join(",", items) + "]");
            p.x.scatter(0, 1, 0);
            Expect.equal("they work", begun(p), bad == 0 ? "" : "<[1]>");
            while (p.x.finish(0)) {
                Expect.equal("none fails", p.x.state(0) == 3, false);
            }
            p.from(0, 0, "$(self[0])");
            Expect.equal("the rule of job " + bad + " fails", begun(p), FAILS);
            p.from(0, 0, "$(self)");
            p.when(0, "$(inputs.a[0])");
            Expect.equal("WHEN of job " + bad + " fails", begun(p), FAILS);
        }
    }

    /** "then WHEN .. is worked with the new values (self is NULL)" */
    private static void whenSeesTheNewValues() {
        Probe p = gathering(0, 0, "0");
        p.when(0, "$(inputs.a)");
        Expect.equal("0 skips", begun(p), SKIPS);
        p.from(0, 0, "x");
        Expect.equal("the new value does not", begun(p), "<x>");
        p.x.finish(0);
        p.input(0, "5");
        p.from(0, 0, "$(inputs.d)");
        Expect.equal("a new NULL skips", begun(p), SKIPS);
        p.from(0, 0, "$(self)");
        p.when(0, "$(self)");
        Expect.equal("self is NULL", begun(p), SKIPS);
        p.when(0, "$(self)x");
        Expect.equal("self is NULL in a text", begun(p), "<5>");
    }

    /** "when that is NULL or the number 0 (nothing else) the job is SKIPPED: its result is NULL" */
    private static void whenSkips() {
        String[] skipping = {"null", "0"};
        String[] going = {"1", "-1", "999999", "-999999", "10", "\"\"", "\"0\"", "\"null\"", "[]", "[0]", "[null]", "[[]]"};
        for (String form : skipping) {
            Probe p = gathering(0, 0, form);
            p.when(0, "$(inputs.a)");
            Expect.equal("skipped by " + form, begun(p), SKIPS);
            Expect.equal("the result", p.output(0), "null");
            p.when(0, "$(inputs.a)$(inputs.a)");
            Expect.equal("a text of it skips nothing", begun(p).equals(SKIPS), false);
        }
        for (String form : going) {
            Probe p = gathering(0, 0, form);
            p.when(0, "$(inputs.a)");
            Expect.equal("not skipped by " + form, begun(p).equals(SKIPS), false);
        }
        for (String rule : new String[] {"", "0", "null", "false", "no", " "}) {
            Probe p = gathering(0, 0, "5");
            p.when(0, rule);
            Expect.equal("not skipped by the text " + rule, begun(p), "<5>");
        }
    }

    private static void skippedJobsHaveNoCommand() {
        Probe p = gathering(0, 0, "[\"123456789012345678901234\"]");
        Expect.equal("a word of 28", begun(p), FAILS);
        p.when(0, "$(self)");
        Expect.equal("a skipped one fails not", begun(p), SKIPS);
        p.from(0, 0, "$(self[1])");
        Expect.equal("but a rule of a skipped one does", begun(p), FAILS);
    }

    private static void someJobsAreSkipped() {
        Probe p = gathering(0, 0, "[1,0,null,2]");
        p.x.scatter(0, 1, 0);
        p.when(0, "$(inputs.a)");
        p.x.start(3);
        Expect.equal("those that are ready keep their numbers", p.jobs(), "0.0 0.3");
        p.x.finish(1);
        Expect.equal("one is left", p.x.state(0), 1);
        p.x.finish(0);
        Expect.equal("NULL for those that were skipped", p.output(0), "[1,null,null,1]");
        p.input(0, "[0,null]");
        Expect.equal("all are skipped", begun(p), SKIPS);
        Expect.equal("done at once", p.output(0), "[null,null]");
        p.input(0, "[]");
        Expect.equal("there is none", begun(p), SKIPS);
        Expect.equal("done at once too", p.output(0), "[]");
    }
}
