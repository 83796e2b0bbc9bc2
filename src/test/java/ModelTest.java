/**
 * Compares StepRunner with the Model over many runs of calls. The calls are drawn by a fixed row of
 * numbers, so that every time they are the same.
 */
public final class ModelTest {
    private static final int RUNS = 8000;
    private static final String[] FORMS = {
        "null", "0", "1", "-12", "999999", "\"\"", "\"x\"", "\"a b\"", "\"7\"", "\"123456789012345678901234\"", "[]",
        "[1]", "[1,2]", "[0,null]", "[null,\"x\"]", "[1,2,3]", "[[1,2],[3]]", "[[],[\"q\"]]", "[[[1]]]", "[1,2,3,4]",
        "[1,2,3,4,5,6,7,8]", "[null,null]", "[\"a\",\"b\",\"c\"]", "[[0,1],[2,null]]", "[[1],2,\"t\",null]",
        "01", "-0", "1000000", "[1,]", "[1 ]", "[[[[]]]]", "[1,2,3,4,5,6,7,8,9]", "nul", "\"\\\"", "x", "", "[", "\"",
    };
    private static final String[] RULES = {
        "", "$(self)", "$(inputs.a)", "$(inputs.b)", "$(inputs.c)", "$(inputs.d)", "$(self[0])", "$(self.length)",
        "$(inputs.a[1])", "$(inputs.b.length)", "$(inputs.a)$(inputs.b)", "<$(self)>", "$(inputs.a[0][1])", "k",
        "$$(self)", "$ (self)", "1", "0", "null", "$(self)1", "-$(inputs.a.length)", "$(self[0].length)x",
        "$(self", "$(selfs)", "$(inputs.e)", "$(self[8])", "$()", "\"", "\\", "$(self)\\", "$(self.length.length)",
        "123456789012345678901234$(self)", "$(inputs.a.length)$(inputs.b.length)$(inputs.c)", "$(self)$(",
    };

    private final Rolls rolls;
    private final int run;
    private final Counted real = new Counted();
    private final Model model = new Model();
    private static final int[] ENDS = new int[4];

    private static final class Rolls {
        private long seed;

        Rolls(long seed) {
            this.seed = seed * 2654435761L + 12345;
            below(2);
            below(2);
        }

        int below(int bound) {
            seed = seed * 6364136223846793005L + 1442695040888963407L;
            return (int) ((seed >>> 33) % bound);
        }
    }

    private ModelTest(int run) {
        this.run = run;
        rolls = new Rolls(run);
    }

    public static void main(String[] args) {
        for (int run = 0; run < RUNS; run++) {
            new ModelTest(run).play();
        }
        for (int status = 1; status < 4; status++) {
            Expect.yes("runs came to status " + status, ENDS[status] > RUNS / 4);
        }
        Expect.end();
    }

    private void play() {
        int careful = rolls.below(4);
        buildTools(careful);
        buildSteps(careful);
        for (int turn = 0; turn < 4 && hasCalls(100); turn++) {
            for (int n = rolls.below(6); n > 0 && hasCalls(80); n--) {
                buildOne(careful);
            }
            int workers = careful > 0 ? 1 + rolls.below(3) : rolls.below(5);
            Expect.equal(at("start(" + workers + ")"), real.start(workers), model.start(workers));
            ENDS[model.status()]++;
            tellAll();
            for (int n = 0; n < 60 && model.status() == 1 && hasCalls(80); n++) {
                if (rolls.below(12) == 0) {
                    buildOne(0);
                }
                int k = rolls.below(8) == 0 ? rolls.below(6) - 1 : rolls.below(Math.max(1, model.running()));
                Expect.equal(at("finish(" + k + ")"), real.finish(k), model.finish(k));
                if (model.status() != 1 || rolls.below(6) == 0) {
                    tellAll();
                } else {
                    tellJobs();
                }
            }
            ENDS[model.status()]++;
        }
    }

    /** Whether so many calls more may be made on the object: what it answers behind the 512th is free. */
    private boolean hasCalls(int more) {
        return real.calls() + more <= Counted.LIMIT;
    }

    private String at(String call) {
        return "run " + run + ": " + call;
    }

    private void draft(String[] drafts, int choice) {
        String text = drafts[choice];
        for (int i = 0; i < text.length(); i++) {
            char c = text.charAt(i);
            Expect.equal(at("write(" + c + ")"), real.write(c), model.write(c));
        }
    }

    private void buildTools(int careful) {
        int tools = 1 + rolls.below(4);
        for (int t = 0; t < tools; t++) {
            int kind = rolls.below(4);
            Expect.equal(at("tool(" + kind + ")"), real.tool(kind), model.tool(kind));
            for (int p = rolls.below(careful > 1 ? 3 : 5); p > 0; p--) {
                addPort(t, careful);
            }
        }
    }

    private void addPort(int tool, int careful) {
        int place = rolls.below(careful > 0 ? 3 : 22) - (careful > 0 ? 1 : 11);
        char prefix = rolls.below(3) > 0 ? 0 : (char) ('a' + rolls.below(careful > 0 ? 26 : 28));
        int style = rolls.below(careful > 0 ? 5 : 6);
        String call = at("port(" + tool + ", " + place + ", " + (int) prefix + ", " + style + ")");
        Expect.equal(call, real.port(tool, place, prefix, style), model.port(tool, place, prefix, style));
    }

    private void buildSteps(int careful) {
        int steps = 1 + rolls.below(6);
        for (int s = 0; s < steps; s++) {
            int tool = rolls.below(4);
            Expect.equal(at("step(" + tool + ")"), real.step(tool), model.step(tool));
            for (int n = rolls.below(4); n > 0; n--) {
                int port = rolls.below(careful > 1 ? 2 : 4);
                int source = careful == 0 ? rolls.below(18) - 1 : rolls.below(3);
                source = careful > 0 && s > 0 && rolls.below(3) == 0 ? 10 + rolls.below(s) : source;
                addLink(s, port, source);
            }
            for (int n = rolls.below(careful == 3 ? 2 : 5); n > 0; n--) {
                buildStep(s, rolls.below(6), careful);
            }
        }
        for (int k = 0; k < 3; k++) {
            addInput(k, careful);
        }
    }

    private void addLink(int s, int port, int source) {
        String call = at("link(" + s + ", " + port + ", " + source + ")");
        Expect.equal(call, real.link(s, port, source), model.link(s, port, source));
    }

    private void addInput(int k, int careful) {
        draft(FORMS, rolls.below(careful > 0 ? 25 : FORMS.length));
        Expect.equal(at("input(" + k + ")"), real.input(k), model.input(k));
    }

    private void buildOne(int careful) {
        switch (rolls.below(6)) {
            case 0:
                addInput(careful > 0 ? rolls.below(3) : rolls.below(5) - 1, careful);
                break;
            case 1:
                addPort(rolls.below(5), careful);
                break;
            case 2:
                addLink(rolls.below(7), rolls.below(careful == 0 ? 5 : 3), rolls.below(careful == 0 ? 17 : 3));
                break;
            default:
                buildStep(rolls.below(7) - (careful == 0 ? 1 : 0), rolls.below(6), careful);
                break;
        }
    }

    private void buildStep(int s, int what, int careful) {
        int port = careful > 0 ? rolls.below(3) : rolls.below(6) - 1;
        switch (what) {
            case 0:
                int merge = rolls.below(careful > 0 ? 3 : 5) - (careful > 0 ? 0 : 1);
                int pick = rolls.below(careful > 0 ? 4 : 6) - (careful > 0 ? 0 : 1);
                String gather = at("gather(" + s + ", " + port + ", " + merge + ", " + pick + ")");
                Expect.equal(gather, real.gather(s, port, merge, pick), model.gather(s, port, merge, pick));
                break;
            case 1:
                draft(FORMS, rolls.below(careful > 0 ? 25 : FORMS.length));
                Expect.equal(at("preset(" + s + ", " + port + ")"), real.preset(s, port), model.preset(s, port));
                break;
            case 2:
                draft(RULES, rolls.below(careful > 1 ? 22 : RULES.length));
                Expect.equal(at("from(" + s + ", " + port + ")"), real.from(s, port), model.from(s, port));
                break;
            case 3:
                draft(RULES, rolls.below(careful > 1 ? 22 : RULES.length));
                Expect.equal(at("when(" + s + ")"), real.when(s), model.when(s));
                break;
            default:
                int ports = careful > 0 ? rolls.below(8) : rolls.below(20) - 2;
                int method = careful > 0 ? rolls.below(3) : rolls.below(5) - 1;
                String scatter = at("scatter(" + s + ", " + ports + ", " + method + ")");
                Expect.equal(scatter, real.scatter(s, ports, method), model.scatter(s, ports, method));
                break;
        }
    }

    private void tellJobs() {
        Expect.equal(at("status()"), real.status(), model.status());
        Expect.equal(at("running()"), real.running(), model.running());
        Expect.equal(at("started()"), real.started(), model.started());
        int k = rolls.below(5) - 1;
        for (int w = -1; w < 4; w++) {
            Expect.equal(at("job(" + k + ", " + w + ")"), real.job(k, w), model.job(k, w));
        }
    }

    /** The jobs, the words of one of them, and all states with their outputs, as far as calls are left. */
    private void tellAll() {
        tellJobs();
        int k = rolls.below(Math.max(1, model.running() + 1));
        for (int j = -1; j <= Math.max(0, model.job(k, 2)); j++) {
            for (int i = -1; (i < 1 || model.word(k, j, i - 1) != -1) && hasCalls(1); i++) {
                Expect.equal(at("word(" + k + ", " + j + ", " + i + ")"), real.word(k, j, i), model.word(k, j, i));
            }
        }
        for (int s = -1; s < 7 && hasCalls(1); s++) {
            Expect.equal(at("state(" + s + ")"), real.state(s), model.state(s));
            for (int i = -1; (i < 1 || model.output(s, i - 1) != -1) && hasCalls(1); i++) {
                Expect.equal(at("output(" + s + ", " + i + ")"), real.output(s, i), model.output(s, i));
            }
        }
    }
}
