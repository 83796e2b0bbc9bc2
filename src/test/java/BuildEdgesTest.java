/**
 * The sentences of promises 1 to 12 that name an edge: for each the last call that is let through
 * and the first that is not, and that a refused call changes nothing.
 */
public final class BuildEdgesTest {
    private static final int LOWEST = Integer.MIN_VALUE;
    private static final int HIGHEST = Integer.MAX_VALUE;
    private static final char NO_PREFIX = 0;

    public static void main(String[] args) {
        newObject();
        toolKinds();
        toolsAreFull();
        portTools();
        portPlaces();
        portPrefixes();
        portStyles();
        portsAreFull();
        stepTools();
        stepsAreFull();
        linkSteps();
        linkPorts();
        linkSources();
        linksAreFull();
        linkToStepsNotThereYet();
        gatherFirst();
        gatherArguments();
        presetArguments();
        presetReplaces();
        presetNull();
        fromArguments();
        whenArguments();
        scatterArguments();
        scatterNotAtAll();
        inputArguments();
        refusedWhileARunGoesOn();
        notRefusedWhenARunIsOver();
        writingIsNoBuilding();
        whatWasRunStays();
        whatFailedStays();
        Expect.end();
    }

    /** Two steps in a row, in which nearly everything that could be built would show. */
    private static void sample(Probe p) {
        p.x.tool(3);
        p.x.port(0, 0, NO_PREFIX, 2);
        p.x.port(0, 1, 'k', 0);
        p.x.tool(1);
        p.step(0, 0, 1);
        p.step(0, 10);
        p.input(0, "[1,null]");
        p.input(2, "\"z\"");
    }

    private static void runSample(Probe p) {
        sample(p);
        p.runAll();
    }

    private static void beginSample(Probe p) {
        sample(p);
        p.x.start(1);
    }

    /** The call is refused, and changes nothing, on a new run and behind one. */
    private static void refused(String what, Twins.Call call, Object due) {
        Twins.unchanged(what, BuildEdgesTest::sample, call, due);
        Twins.unchanged(what + " behind a run", BuildEdgesTest::runSample, call, due);
    }

    // ---- 1: "No tools, no steps, inputs NULL, nothing was run."

    private static void newObject() {
        for (int tool = -1; tool < 5; tool++) {
            Expect.equal("1: no tool " + tool + " for a port", new Probe().x.port(tool, 0, NO_PREFIX, 0), -1);
            Expect.equal("1: no tool " + tool + " for a step", new Probe().x.step(tool), -1);
        }
        Expect.equal("1: the first tool", new Probe().x.tool(3), 0);
        for (int step = -1; step < 7; step++) {
            Probe p = new Probe();
            p.tool(0, 0);
            Expect.no("1: no step to link", p.x.link(step, 0, 0));
            Expect.no("1: no step to gather", p.x.gather(step, 0, 0, 0));
            Expect.no("1: no step to scatter", p.x.scatter(step, 0, 0));
            Expect.no("1: no step for a preset", p.preset(step, 0, "1"));
            Expect.no("1: no step for a rule", p.from(step, 0, "1"));
            Expect.no("1: no step for WHEN", p.when(step, "1"));
            Expect.equal("1: no state", p.x.state(step), -1);
            Expect.equal("1: no output", p.x.output(step, 0), -1);
        }
        for (int k = 0; k < 3; k++) {
            Probe p = new Probe();
            p.step(p.tool(0, 0), k);
            p.x.gather(0, 0, 1, 0);
            p.x.start(1);
            Expect.equal("1: input " + k + " is NULL", p.command(0), "<[null]>");
        }
        Probe p = new Probe();
        Expect.equal("1: nothing was run", p.x.status(), 0);
        Expect.equal("1: nothing runs", p.x.running(), 0);
        Expect.equal("1: nothing was started", p.x.started(), 0);
        Expect.no("1: nothing ends", p.x.finish(0));
    }

    // ---- 3: "A new tool of a kind 0 .. 3: its number; -1 when there are four, or kind is not so."

    private static void toolKinds() {
        for (int kind : new int[] {-1, 4, LOWEST, HIGHEST}) {
            refused("3: tool(" + kind + ")", p -> p.x.tool(kind), -1);
        }
        String[] results = {"\"5\"", "1", "5", "[\"5\"]"};
        for (int kind = 0; kind <= 3; kind++) {
            Probe p = new Probe();
            Expect.equal("3: tool(" + kind + ")", p.x.tool(kind), 0);
            p.x.port(0, 0, NO_PREFIX, 0);
            p.step(0, 0);
            p.input(0, "5");
            p.runAll();
            Expect.equal("3: the result of kind " + kind, p.output(0), results[kind]);
        }
    }

    private static void toolsAreFull() {
        Probe p = new Probe();
        for (int n = 0; n < 4; n++) {
            Expect.equal("3: tool " + n, p.x.tool(0), n);
            Expect.equal("3: a step of it", p.x.step(n), n);
            Expect.equal("3: no step of the next", p.x.step(n + 1), -1);
        }
        for (int kind = -1; kind <= 4; kind++) {
            int wanted = kind;
            Twins.unchanged("3: a fifth of kind " + kind, BuildEdgesTest::fourTools, q -> q.x.tool(wanted), -1);
        }
    }

    private static void fourTools(Probe p) {
        sample(p);
        p.x.tool(2);
        p.x.tool(0);
    }

    // ---- 4: "A new port of a tool: its number; -1 when there is no such tool, it has four, place is not -9 .. 9,
    // ---- prefix is not 0 or a .. z, or style is not 0 .. 4 (4: not in the command)."

    private static void portTools() {
        for (int tool : new int[] {-1, 2, 3, 4, LOWEST, HIGHEST}) {
            refused("4: port of tool " + tool, p -> p.x.port(tool, 0, NO_PREFIX, 0), -1);
        }
        Probe p = new Probe();
        sample(p);
        Expect.equal("4: port of the first tool", p.x.port(0, 0, NO_PREFIX, 0), 2);
        Expect.equal("4: port of the last tool", p.x.port(1, 0, NO_PREFIX, 0), 0);
        Twins.unchanged("4: port of tool 4 of four", BuildEdgesTest::fourTools, q -> q.x.port(4, 0, NO_PREFIX, 0), -1);
        Probe q = new Probe();
        fourTools(q);
        Expect.equal("4: port of tool 3 of four", q.x.port(3, 0, NO_PREFIX, 0), 0);
    }

    private static void portPlaces() {
        for (int place : new int[] {-10, 10, LOWEST, HIGHEST}) {
            refused("4: place " + place, p -> p.x.port(0, place, NO_PREFIX, 0), -1);
        }
        for (int place = -9; place <= 9; place++) {
            Probe p = new Probe();
            p.x.tool(0);
            p.x.port(0, 0, 'm', 1);
            Expect.equal("4: place " + place, p.x.port(0, place, 'n', 1), 1);
            p.step(0, 0, 0);
            p.input(0, "1");
            p.x.start(1);
            Expect.equal("4: it stands there", p.command(0), place < 0 ? "<-n1><-m1>" : "<-m1><-n1>");
        }
        Probe p = new Probe();
        p.x.tool(0);
        int[] places = {9, 8, -8, -9};
        for (int n = 0; n < 4; n++) {
            p.x.port(0, places[n], (char) ('a' + n), 1);
        }
        p.step(0, 0, 0, 0, 0);
        p.input(0, "1");
        p.x.start(1);
        Expect.equal("4: the outermost places", p.command(0), "<-d1><-c1><-b1><-a1>");
    }

    private static void portPrefixes() {
        for (int prefix : new int[] {1, 32, '-', '0', 'A', 'Z', 'a' - 1, 'z' + 1, 127, 256, 256 + 'a', 0xffff}) {
            refused("4: prefix " + prefix, p -> p.x.port(0, 0, (char) prefix, 0), -1);
        }
        int taken = 0;
        for (int prefix = 0; prefix <= 0xffff; prefix++) {
            StepRunner x = new StepRunner();
            x.tool(0);
            taken += x.port(0, 0, (char) prefix, 0) == 0 ? 1 : 0;
        }
        Expect.equal("4: so many prefixes are taken", taken, 27);
        for (char prefix : new char[] {NO_PREFIX, 'a', 'z'}) {
            Probe p = new Probe();
            p.x.tool(0);
            Expect.equal("4: prefix " + (int) prefix, p.x.port(0, 0, prefix, 0), 0);
            p.step(0, 0);
            p.input(0, "1");
            p.x.start(1);
            Expect.equal("4: it is a word", p.command(0), prefix == 0 ? "<1>" : "<-" + prefix + "><1>");
        }
    }

    private static void portStyles() {
        for (int style : new int[] {-1, 5, LOWEST, HIGHEST}) {
            refused("4: style " + style, p -> p.x.port(0, 0, NO_PREFIX, style), -1);
        }
        String[] commands = {"<-p><[1,2]>", "<-p[1,2]>", "<-p><1><2>", "<-p><1,2>", ""};
        for (int style = 0; style <= 4; style++) {
            Probe p = new Probe();
            p.x.tool(0);
            Expect.equal("4: style " + style, p.x.port(0, 0, 'p', style), 0);
            p.step(0, 0);
            p.input(0, "[1,2]");
            p.x.start(1);
            Expect.equal("4: the command of style " + style, p.command(0), commands[style]);
        }
    }

    private static void portsAreFull() {
        Probe p = new Probe();
        for (int tool = 0; tool < 2; tool++) {
            p.x.tool(0);
            for (int n = 0; n < 4; n++) {
                Expect.equal("4: port " + n + " of tool " + tool, p.x.port(tool, 0, NO_PREFIX, n), n);
            }
            Expect.equal("4: a fifth of tool " + tool, p.x.port(tool, 0, NO_PREFIX, 0), -1);
        }
        Twins.unchanged("4: a fifth", BuildEdgesTest::fourPorts, q -> q.x.port(0, -9, 'x', 0), -1);
    }

    private static void fourPorts(Probe p) {
        sample(p);
        p.x.port(0, 0, 'm', 0);
        p.x.port(0, 0, 'n', 4);
        p.x.link(0, 2, 2);
    }

    // ---- 5: "A new step that runs a tool: its number; -1 when there are six, or no such tool."

    private static void stepTools() {
        for (int tool : new int[] {-1, 2, 3, 4, LOWEST, HIGHEST}) {
            refused("5: step(" + tool + ")", p -> p.x.step(tool), -1);
        }
        Probe p = new Probe();
        fourTools(p);
        Expect.equal("5: of the first tool", p.x.step(0), 2);
        Expect.equal("5: of the last tool", p.x.step(3), 3);
        p.runAll();
        Expect.equal("5: it runs the first", p.output(2), "[]");
        Expect.equal("5: it runs the last", p.output(3), "\"\"");
    }

    private static void stepsAreFull() {
        Twins.unchanged("5: a seventh", BuildEdgesTest::sixSteps, p -> p.x.step(0), -1);
        Probe p = new Probe();
        p.tool(1);
        for (int n = 0; n < 6; n++) {
            Expect.equal("5: step " + n, p.x.step(0), n);
        }
        Expect.equal("5: no more", p.x.step(0), -1);
        Expect.equal("5: all run", p.runAll(), 2);
        Expect.equal("5: six jobs", p.x.started(), 6);
        Expect.equal("5: the last is done", p.output(5), "0");
    }

    private static void sixSteps(Probe p) {
        sample(p);
        for (int n = 2; n < 6; n++) {
            p.x.step(1);
        }
    }

    // ---- 6: "A further source of a port: true; false when there is no such step, port is not 0 .. 3, it has three,
    // ---- or source is not 0 .. 2 or 10 .. 15. (The step of a source need not be there yet.)"

    private static void linkSteps() {
        for (int step : new int[] {-1, 2, 5, 6, LOWEST, HIGHEST}) {
            refused("6: link of step " + step, p -> p.x.link(step, 0, 0), false);
        }
        Probe p = new Probe();
        sample(p);
        Expect.yes("6: link of the first step", p.x.link(0, 0, 0));
        Expect.yes("6: link of the last step", p.x.link(1, 0, 0));
        Twins.unchanged("6: link of step 6 of six", BuildEdgesTest::sixSteps, q -> q.x.link(6, 0, 0), false);
        Probe q = new Probe();
        sixSteps(q);
        Expect.yes("6: link of step 5 of six", q.x.link(5, 0, 0));
    }

    private static void linkPorts() {
        for (int port : new int[] {-1, 4, LOWEST, HIGHEST}) {
            refused("6: link of port " + port, p -> p.x.link(0, port, 0), false);
        }
        for (int port = 0; port <= 3; port++) {
            Probe p = new Probe();
            p.step(p.tool(0, 1, 1, 1, 1));
            Expect.yes("6: link of port " + port, p.x.link(0, port, 0));
            p.input(0, "7");
            p.from(0, 0, "$(inputs.a)$(inputs.b)$(inputs.c)$(inputs.d)");
            p.x.start(1);
            String[] forms = {"null", "null", "null", "null"};
            forms[port] = "7";
            String word = "<" + String.join("", forms) + ">";
            Expect.equal("6: that port has it", p.command(0), port == 0 ? word : word + "<7>");
        }
    }

    private static void linkSources() {
        for (int source : new int[] {-1, 3, 4, 8, 9, 16, 17, 20, LOWEST, HIGHEST}) {
            refused("6: source " + source, p -> p.x.link(0, 0, source), false);
        }
        for (int k = 0; k <= 2; k++) {
            Probe p = new Probe();
            p.step(p.tool(0, 0));
            Expect.yes("6: source " + k, p.x.link(0, 0, k));
            for (int i = 0; i < 3; i++) {
                p.input(i, "" + (i + 4));
            }
            p.x.start(1);
            Expect.equal("6: it is that input", p.command(0), "<" + (k + 4) + ">");
        }
        for (int s = 0; s <= 5; s++) {
            Probe p = new Probe();
            p.tool(0, 0);
            for (int n = 0; n < 6; n++) {
                p.x.step(0);
                p.from(n, 0, n == s ? "" + s : "-");
            }
            int reader = s == 0 ? 1 : 0;
            p.from(reader, 0, "<$(self)>");
            Expect.yes("6: source " + (10 + s), p.x.link(reader, 0, 10 + s));
            p.runAll();
            Expect.equal("6: it is the output of that step", p.output(reader), "\"<" + s + ">\"");
        }
    }

    private static void linksAreFull() {
        for (int port = 0; port < 4; port++) {
            Probe p = new Probe();
            sample(p);
            p.x.step(0);
            for (int n = 0; n < 3; n++) {
                Expect.yes("6: source " + n + " of port " + port, p.x.link(2, port, 2 - n));
            }
            Expect.no("6: a fourth of port " + port, p.x.link(2, port, 0));
            Expect.no("6: a step as the fourth of port " + port, p.x.link(2, port, 15));
            Expect.yes("6: another port has room", p.x.link(2, (port + 1) % 4, 0));
            Expect.yes("6: another step has room", p.x.link(1, port, 0));
        }
        Twins.unchanged("6: a fourth source", BuildEdgesTest::threeSources, p -> p.x.link(0, 0, 2), false);
        Twins.unchanged("6: a fourth, not there", BuildEdgesTest::threeSources, p -> p.x.link(0, 0, 15), false);
    }

    private static void threeSources(Probe p) {
        sample(p);
        p.x.link(0, 0, 1);
        p.x.link(0, 0, 0);
    }

    private static void linkToStepsNotThereYet() {
        for (int s = 1; s <= 5; s++) {
            Probe p = new Probe();
            p.tool(0, 0);
            p.step(0);
            Expect.yes("6: step " + s + " is not there yet", p.x.link(0, 0, 10 + s));
            for (int n = 1; n <= s; n++) {
                Expect.equal("6: nor now", p.x.start(1), 1);
                p.x.step(0);
            }
            Expect.equal("6: now it is", p.x.start(1), 0);
        }
    }

    // ---- 7: "MERGE (0 .. 2) and PICK (0 .. 3) of a port (0 and 0 at first): true; false when there is no such step,
    // ---- or a number is not so."

    private static void gatherFirst() {
        for (int port = 0; port < 4; port++) {
            Probe p = new Probe();
            p.step(p.tool(0, 4, 4, 4, 4));
            p.x.link(0, port, 0);
            p.input(0, "[null,1]");
            p.when(0, "$(inputs." + (char) ('a' + port) + "[1])");
            Expect.equal("7: 0 and 0 at first", p.runAll(), 2);
            Expect.equal("7: the value as it is", p.x.started(), 1);
            Probe q = new Probe();
            q.step(q.tool(0, 0), 0);
            q.input(0, "[null,1]");
            q.x.start(1);
            Expect.equal("7: neither merged nor picked at first", q.command(0), "<[null,1]>");
        }
    }

    private static void gatherArguments() {
        int[][] wrong = {
            {-1, 0, 1, 0}, {2, 0, 1, 0}, {5, 0, 1, 0}, {6, 0, 1, 0}, {LOWEST, 0, 1, 0}, {HIGHEST, 0, 1, 0},
            {0, -1, 1, 1}, {0, 4, 1, 1}, {0, LOWEST, 1, 1}, {0, HIGHEST, 1, 1},
            {0, 0, -1, 1}, {0, 0, 3, 1}, {0, 0, LOWEST, 1}, {0, 0, HIGHEST, 1},
            {0, 0, 1, -1}, {0, 0, 1, 4}, {0, 0, 1, LOWEST}, {0, 0, 1, HIGHEST},
        };
        for (int[] w : wrong) {
            String call = "7: gather(" + w[0] + ", " + w[1] + ", " + w[2] + ", " + w[3] + ")";
            refused(call, p -> p.x.gather(w[0], w[1], w[2], w[3]), false);
        }
        String[][] commands = {
            {"<[null,3]>", "<3>", "<3>", "<[3]>"},
            {"<[[null,3]]>", "<[null,3]>", "<[null,3]>", "<[[null,3]]>"},
            {"<[null,3]>", "<3>", "<3>", "<[3]>"},
        };
        for (int merge = 0; merge <= 2; merge++) {
            for (int pick = 0; pick <= 3; pick++) {
                Probe p = new Probe();
                p.step(p.tool(0, 0), 0);
                p.input(0, "[null,3]");
                Expect.yes("7: gather " + merge + " " + pick, p.x.gather(0, 0, merge, pick));
                p.x.start(1);
                Expect.equal("7: MERGE " + merge + ", PICK " + pick, p.command(0), commands[merge][pick]);
            }
        }
        for (int port = 0; port <= 3; port++) {
            Probe p = new Probe();
            p.step(p.tool(0, 0, 0, 0, 0), 0, 0, 0, 0);
            p.input(0, "3");
            Expect.yes("7: gather of port " + port, p.x.gather(0, port, 1, 0));
            p.x.start(1);
            String[] words = {"<3>", "<3>", "<3>", "<3>"};
            words[port] = "<[3]>";
            Expect.equal("7: of that port alone", p.command(0), String.join("", words));
        }
    }

    // ---- 8: "The draft, a value, becomes the PRESET of a port, in place of an earlier one (null: what is NULL stays
    // ---- NULL): true; false when it is none, there is no such step, or port is not 0 .. 3."

    private static final int[][] NO_STEP_OR_PORT = {
        {-1, 1}, {2, 1}, {5, 1}, {6, 1}, {LOWEST, 1}, {HIGHEST, 1}, {0, -1}, {0, 4}, {0, LOWEST}, {0, HIGHEST},
    };

    private static void presetArguments() {
        for (int[] w : NO_STEP_OR_PORT) {
            refused("8: preset(" + w[0] + ", " + w[1] + ")", p -> p.preset(w[0], w[1], "5"), false);
        }
        for (String draft : new String[] {"", "x", "$(self)", "1000000", "[5"}) {
            refused("8: preset of " + draft, p -> p.preset(0, 1, draft), false);
        }
        for (int port = 0; port <= 3; port++) {
            Probe p = new Probe();
            p.step(p.tool(0, 0, 0, 0, 0));
            p.x.step(0);
            Expect.yes("8: preset of port " + port, p.preset(0, port, "5"));
            p.x.start(1);
            Expect.equal("8: a word", p.command(0), "<5>");
            p.x.finish(0);
            Expect.equal("8: another step has none", p.command(0), "");
            p.x.finish(0);
            for (int other = 0; other < 4; other++) {
                p.from(0, other, other == port ? "$(self)" : "-");
            }
            p.x.start(1);
            String[] words = {"<->", "<->", "<->", "<->"};
            words[port] = "<5>";
            Expect.equal("8: of that port alone", p.command(0), String.join("", words));
        }
    }

    private static void presetReplaces() {
        Probe p = new Probe();
        p.step(p.tool(0, 0));
        String[] forms = {"1", "\"two\"", "[3]", "\"\"", "null", "[]", "6"};
        String[] commands = {"<1>", "<two>", "<[3]>", "<>", "", "", "<6>"};
        for (int n = 0; n < forms.length; n++) {
            Expect.yes("8: preset " + forms[n], p.preset(0, 0, forms[n]));
            p.x.start(1);
            Expect.equal("8: in place of the earlier one", p.command(0), commands[n]);
            p.x.finish(0);
        }
    }

    private static void presetNull() {
        Probe p = new Probe();
        p.step(p.tool(0, 0));
        p.preset(0, 0, "1");
        Expect.yes("8: preset null", p.preset(0, 0, "null"));
        p.from(0, 0, "<$(self)>");
        p.x.start(1);
        Expect.equal("8: what is NULL stays NULL", p.command(0), "<<null>>");
    }

    // ---- 9: "The draft, a rule, becomes the rule of a port: true; false when it is none, there is no such step, or
    // ---- port is not 0 .. 3."

    private static void fromArguments() {
        for (int[] w : NO_STEP_OR_PORT) {
            refused("9: from(" + w[0] + ", " + w[1] + ")", p -> p.from(w[0], w[1], "r"), false);
        }
        for (String draft : new String[] {"$(", "$(x)", "r$(self[8])", "$(inputs.e)"}) {
            refused("9: from of " + draft, p -> p.from(0, 1, draft), false);
        }
        for (int port = 0; port <= 3; port++) {
            Probe p = new Probe();
            p.step(p.tool(0, 0, 0, 0, 0), 0, 0, 0, 0);
            p.x.step(0);
            p.input(0, "3");
            Expect.yes("9: from of port " + port, p.from(0, port, "r"));
            p.x.start(1);
            String[] words = {"<3>", "<3>", "<3>", "<3>"};
            words[port] = "<r>";
            Expect.equal("9: of that port alone", p.command(0), String.join("", words));
            p.x.finish(0);
            Expect.equal("9: another step has none", p.command(0), "");
            p.x.finish(0);
            Expect.yes("9: another rule", p.from(0, port, "s"));
            p.x.start(1);
            words[port] = "<s>";
            Expect.equal("9: in its place", p.command(0), String.join("", words));
        }
    }

    // ---- 10: "The draft, a rule, becomes WHEN of a step: true; false when it is none, or there is no such step."

    private static void whenArguments() {
        for (int step : new int[] {-1, 2, 5, 6, LOWEST, HIGHEST}) {
            refused("10: when(" + step + ")", p -> p.when(step, "$(self)"), false);
        }
        for (String draft : new String[] {"$(", "$(x)", "$(self", "$(self[8])", "$(inputs.e)"}) {
            refused("10: when of " + draft, p -> p.when(0, draft), false);
        }
        for (int step = 0; step < 6; step++) {
            Probe p = new Probe();
            p.tool(1);
            for (int n = 0; n < 6; n++) {
                p.x.step(0);
            }
            Expect.yes("10: when(" + step + ")", p.when(step, "$(self)"));
            p.runAll();
            for (int n = 0; n < 6; n++) {
                Expect.equal("10: that step is skipped alone", p.output(n), n == step ? "null" : "0");
            }
            Expect.yes("10: another", p.when(step, "x"));
            p.runAll();
            Expect.equal("10: in its place", p.output(step), "0");
        }
    }

    // ---- 11: "The step is SCATTERED over the ports of the bits of ports (0 .. 15; 0: not scattered) with a METHOD
    // ---- (0 .. 2): true; false when there is no such step, or a number is not so."

    private static void scatterArguments() {
        int[][] wrong = {
            {-1, 1, 0}, {2, 1, 0}, {5, 1, 0}, {6, 1, 0}, {LOWEST, 1, 0}, {HIGHEST, 1, 0},
            {0, -1, 0}, {0, 16, 0}, {0, 17, 0}, {0, LOWEST, 0}, {0, HIGHEST, 0},
            {0, 1, -1}, {0, 1, 3}, {0, 1, LOWEST}, {0, 1, HIGHEST},
        };
        for (int[] w : wrong) {
            String call = "11: scatter(" + w[0] + ", " + w[1] + ", " + w[2] + ")";
            refused(call, p -> p.x.scatter(w[0], w[1], w[2]), false);
            Twins.unchanged(call + " of a scattered step", BuildEdgesTest::scattered,
                p -> p.x.scatter(w[0], w[1], w[2]), false);
        }
        for (int ports = 0; ports <= 15; ports++) {
            Probe p = new Probe();
            p.step(p.tool(0, 0, 0, 0, 0), 0, 0, 0, 0);
            p.input(0, "[7]");
            Expect.yes("11: scatter over " + ports, p.x.scatter(0, ports, 0));
            p.x.start(1);
            StringBuilder words = new StringBuilder();
            for (int port = 0; port < 4; port++) {
                words.append((ports >> port & 1) == 1 ? "<7>" : "<[7]>");
            }
            Expect.equal("11: over those ports", p.command(0), words.toString());
        }
        String[] outputs = {"[\"1 1\",\"2 2\"]", "[\"1 1\",\"1 2\",\"2 1\",\"2 2\"]",
            "[[\"1 1\",\"1 2\"],[\"2 1\",\"2 2\"]]"};
        for (int method = 0; method <= 2; method++) {
            Probe p = new Probe();
            p.step(p.tool(0, 0, 0), 0, 0);
            p.input(0, "[1,2]");
            Expect.yes("11: METHOD " + method, p.x.scatter(0, 3, method));
            p.runAll();
            Expect.equal("11: the output of METHOD " + method, p.output(0), outputs[method]);
        }
    }

    private static void scattered(Probe p) {
        sample(p);
        p.preset(0, 1, "[1,2]");
        p.x.scatter(0, 2, 0);
    }

    private static void scatterNotAtAll() {
        for (int method = 0; method <= 2; method++) {
            Probe p = new Probe();
            p.step(p.tool(0, 0), 0);
            p.input(0, "[1,2]");
            p.x.scatter(0, 1, method);
            Expect.yes("11: scatter over 0", p.x.scatter(0, 0, method));
            p.runAll();
            Expect.equal("11: 0: not scattered", p.output(0), "\"[1,2]\"");
            p.input(0, "5");
            p.runAll();
            Expect.equal("11: it need be no list then", p.output(0), "\"5\"");
        }
    }

    // ---- 12: "The draft, a value, becomes input k (0 .. 2): true; false when it is none, or there is no such input."

    private static void inputArguments() {
        for (int k : new int[] {-1, 3, 10, LOWEST, HIGHEST}) {
            refused("12: input(" + k + ")", p -> p.input(k, "5"), false);
        }
        for (String draft : new String[] {"", "x", "$(self)", "1000000", "[5"}) {
            refused("12: input of " + draft, p -> p.input(0, draft), false);
        }
        for (int k = 0; k <= 2; k++) {
            Probe p = new Probe();
            p.step(p.tool(0, 0), 0);
            p.x.link(0, 0, 1);
            p.x.link(0, 0, 2);
            Expect.yes("12: input(" + k + ")", p.input(k, "5"));
            String[] forms = {"null", "null", "null"};
            forms[k] = "5";
            p.x.start(1);
            Expect.equal("12: that input alone", p.command(0), "<[" + String.join(",", forms) + "]>");
            p.x.finish(0);
            Expect.yes("12: another", p.input(k, "[]"));
            forms[k] = "[]";
            p.x.start(1);
            Expect.equal("12: in its place", p.command(0), "<[" + String.join(",", forms) + "]>");
        }
    }

    // ---- "Calls that build are refused while a run goes on (they answer -1 or false; input() is one, write() is
    // ---- not); a draft that they would take is empty then."

    private static void refusedWhileARunGoesOn() {
        Object[][] calls = {
            {"tool", (Twins.Call) p -> p.x.tool(0), -1},
            {"port", (Twins.Call) p -> p.x.port(0, 0, NO_PREFIX, 0), -1},
            {"port of a tool without any", (Twins.Call) p -> p.x.port(1, 0, NO_PREFIX, 0), -1},
            {"step", (Twins.Call) p -> p.x.step(0), -1},
            {"link", (Twins.Call) p -> p.x.link(0, 0, 0), false},
            {"link of a waiting step", (Twins.Call) p -> p.x.link(1, 1, 2), false},
            {"gather", (Twins.Call) p -> p.x.gather(0, 0, 1, 0), false},
            {"gather of a waiting step", (Twins.Call) p -> p.x.gather(1, 0, 1, 0), false},
            {"scatter", (Twins.Call) p -> p.x.scatter(0, 1, 0), false},
            {"scatter of a waiting step", (Twins.Call) p -> p.x.scatter(1, 1, 0), false},
            {"preset", (Twins.Call) p -> p.preset(0, 1, "5"), false},
            {"preset of a waiting step", (Twins.Call) p -> p.preset(1, 1, "5"), false},
            {"from", (Twins.Call) p -> p.from(0, 0, "r"), false},
            {"from of a waiting step", (Twins.Call) p -> p.from(1, 0, "r"), false},
            {"when", (Twins.Call) p -> p.when(0, "$(self)"), false},
            {"when of a waiting step", (Twins.Call) p -> p.when(1, "$(self)"), false},
            {"input 0", (Twins.Call) p -> p.input(0, "5"), false},
            {"input 1", (Twins.Call) p -> p.input(1, "5"), false},
            {"input 2", (Twins.Call) p -> p.input(2, "5"), false},
        };
        for (Object[] row : calls) {
            Twins.Call call = (Twins.Call) row[1];
            Twins.unchanged(row[0] + " while a run goes on", BuildEdgesTest::beginSample, call, row[2]);
            Twins.unchanged(row[0] + " while a run goes on that has failed", BuildEdgesTest::beginFailing, call, row[2]);
        }
    }

    /** A run in which the first step has failed, and the second still runs. */
    private static void beginFailing(Probe p) {
        sample(p);
        p.x.tool(2);
        p.x.port(2, 0, 'w', 0);
        p.step(2, 2);
        p.x.step(1);
        p.x.start(3);
        p.x.finish(1);
        Expect.equal("it has failed, and goes on", p.x.state(2) * 10 + p.x.status(), 31);
    }

    private static void notRefusedWhenARunIsOver() {
        for (int end = 2; end <= 3; end++) {
            Probe p = new Probe();
            p.tool(2, 0);
            p.step(0, 0);
            p.input(0, end == 2 ? "1" : "\"x\"");
            Expect.equal("over", p.runAll(), end);
            Expect.equal("over: tool", p.x.tool(0), 1);
            Expect.equal("over: port", p.x.port(0, 0, NO_PREFIX, 0), 1);
            Expect.equal("over: step", p.x.step(0), 1);
            Expect.yes("over: link", p.x.link(0, 1, 1));
            Expect.yes("over: gather", p.x.gather(0, 0, 1, 1));
            Expect.yes("over: scatter", p.x.scatter(0, 1, 0));
            Expect.yes("over: preset", p.preset(0, 0, "5"));
            Expect.yes("over: from", p.from(0, 0, "5"));
            Expect.yes("over: when", p.when(0, "5"));
            Expect.yes("over: input", p.input(1, "5"));
        }
    }

    private static void writingIsNoBuilding() {
        Probe p = new Probe();
        beginSample(p);
        for (int n = 0; n < 60; n++) {
            Expect.yes("write while a run goes on", p.x.write(n % 2 == 0 ? ' ' : '~'));
            Expect.no("not of 31", p.x.write((char) 31));
            Expect.no("not of 127", p.x.write((char) 127));
        }
        Expect.no("not when 60 are there", p.x.write('1'));
        Expect.no("the draft is taken", p.x.input(0));
        p.type("[5,5]");
        p.x.finish(0);
        p.x.finish(0);
        Expect.equal("the run is over", p.x.status(), 2);
        Expect.yes("what was written then is there", p.x.input(0));
        p.x.start(1);
        Expect.equal("as it was written", p.command(0), "<5><5>");
    }

    // ---- "What was run stays as it is told, whatever is built behind it."

    private static void buildMuch(Probe p, String before) {
        Object[][] calls = {
            {"tool", (Twins.Call) q -> q.x.tool(0) >= 0}, {"port", (Twins.Call) q -> q.x.port(0, -9, 'q', 1) >= 0},
            {"step", (Twins.Call) q -> q.x.step(1) >= 0}, {"link", (Twins.Call) q -> q.x.link(0, 0, 2)},
            {"link round", (Twins.Call) q -> q.x.link(0, 1, 11)}, {"gather", (Twins.Call) q -> q.x.gather(0, 0, 2, 3)},
            {"scatter", (Twins.Call) q -> q.x.scatter(0, 1, 2)}, {"preset", (Twins.Call) q -> q.preset(0, 1, "5")},
            {"from", (Twins.Call) q -> q.from(0, 0, "r")}, {"when", (Twins.Call) q -> q.when(0, "$(self)")},
            {"input", (Twins.Call) q -> q.input(0, "5")},
        };
        int steps = 0;
        for (Object[] row : calls) {
            Expect.equal("built behind the run: " + row[0], ((Twins.Call) row[1]).on(p), true);
            steps += row[0].equals("step") ? 1 : 0;
            String due = steps == 0 ? before : before.replace("step 2 -1", "step 2 0");
            Expect.equal("told as before: " + row[0], p.tell(), due);
        }
    }

    private static void whatWasRunStays() {
        Probe p = new Probe();
        p.x.tool(3);
        p.x.port(0, 0, NO_PREFIX, 2);
        p.step(0, 0);
        p.step(0, 10);
        p.input(0, "[1]");
        p.x.tool(1);
        Expect.equal("a SUCCESS", p.runAll(), 2);
        buildMuch(p, "status 2, started 2, running , step 0 2 [\"1\"], step 1 2 [\"1\"], step 2 -1, step 3 -1, "
            + "step 4 -1, step 5 -1");
    }

    private static void whatFailedStays() {
        Probe p = new Probe();
        p.x.tool(2);
        p.x.port(0, 0, NO_PREFIX, 2);
        p.step(0, 0);
        p.step(0, 10);
        p.input(0, "[\"x\"]");
        p.x.tool(1);
        Expect.equal("FAILED", p.runAll(), 3);
        buildMuch(p, "status 3, started 1, running , step 0 3, step 1 0, step 2 -1, step 3 -1, step 4 -1, step 5 -1");
    }
}
