/** Promises 1 to 12: a new object and the calls that build. */
public final class BuildTest {
    private static final int LOWEST = Integer.MIN_VALUE;
    private static final int HIGHEST = Integer.MAX_VALUE;

    public static void main(String[] args) {
        promise1NewObject();
        promise2Write();
        promise3Tool();
        promise4Port();
        promise5Step();
        promise6Link();
        promise7Gather();
        promise8Preset();
        promise9From();
        promise10When();
        promise11Scatter();
        promise12Input();
        buildingIsRefusedWhileARunGoesOn();
        Expect.end();
    }

    private static void promise1NewObject() {
        Probe p = new Probe();
        Expect.equal("1: status", p.x.status(), 0);
        Expect.equal("1: running", p.x.running(), 0);
        Expect.equal("1: started", p.x.started(), 0);
        Expect.equal("1: no job", p.x.job(0, 0), -1);
        Expect.equal("1: no word", p.x.word(0, 0, 0), -1);
        Expect.equal("1: no step", p.x.state(0), -1);
        Expect.equal("1: no output", p.x.output(0, 0), -1);
        Expect.equal("1: no tool for a port", p.x.port(0, 0, 'a', 0), -1);
        Expect.equal("1: no tool for a step", p.x.step(0), -1);
        Expect.no("1: nothing to finish", p.x.finish(0));
        p.step(p.tool(0, 0), 0);
        p.step(0, 1);
        p.step(0, 2);
        Expect.yes("1: inputs are listed", p.x.gather(0, 0, 1, 0));
        p.x.link(0, 0, 1);
        p.x.link(0, 0, 2);
        Expect.equal("1: starts", p.x.start(1), 0);
        Expect.equal("1: all inputs are NULL", p.command(0), "<[null,null,null]>");
    }

    private static void promise2Write() {
        Probe p = new Probe();
        for (char c : new char[] {0, 10, 31, 127, 128, 255, 0x2191, 0xffff}) {
            Expect.no("2: write of " + (int) c, p.x.write(c));
        }
        Expect.yes("2: blank", p.x.write(' '));
        Expect.yes("2: tilde", p.x.write('~'));
        for (int n = 2; n < 60; n++) {
            Expect.yes("2: character " + n, p.x.write('x'));
        }
        Expect.no("2: the 61st", p.x.write('x'));
        Expect.no("2: no value", p.x.input(0));
        Expect.yes("2: the draft is empty again", p.input(0, "1"));

        Probe q = new Probe();
        q.step(q.tool(3, 2), 0);
        Expect.yes("2: 60 characters are a value",
            q.input(0, "[\"aaaaaaaaaaaaaaaaaaaaaaaa\",\"bbbbbbbbbbbbbbbbbbbbbbbb\",1234]"));
        Expect.equal("2: it runs", q.runAll(), 2);
        Expect.equal("2: it has them all", q.output(0),
            "[\"aaaaaaaaaaaaaaaaaaaaaaaa\",\"bbbbbbbbbbbbbbbbbbbbbbbb\",\"1234\"]");

        Probe r = new Probe();
        Expect.yes("2: in pieces", r.x.write('1'));
        r.x.write((char) 7);
        r.x.tool(0);
        r.x.start(1);
        Expect.yes("2: what is refused, and other calls, leave the draft", r.type("2").x.input(0));
    }

    private static void promise3Tool() {
        Probe p = new Probe();
        for (int kind : new int[] {-1, 4, LOWEST, HIGHEST}) {
            Expect.equal("3: tool(" + kind + ")", p.x.tool(kind), -1);
        }
        for (int kind = 0; kind < 4; kind++) {
            Expect.equal("3: tool " + kind, p.x.tool(kind), kind);
        }
        Expect.equal("3: a fifth", p.x.tool(0), -1);
        for (int kind = 0; kind < 4; kind++) {
            p.x.port(kind, 0, (char) 0, 0);
            p.step(kind, 0);
        }
        p.input(0, "5");
        Expect.equal("3: all run", p.runAll(), 2);
        Expect.equal("3: ECHO", p.output(0), "\"5\"");
        Expect.equal("3: COUNT", p.output(1), "1");
        Expect.equal("3: SUM", p.output(2), "5");
        Expect.equal("3: ITEMS", p.output(3), "[\"5\"]");
    }

    private static void promise4Port() {
        Probe p = new Probe();
        p.x.tool(0);
        int[][] wrong = {
            {-1, 0, 0, 0}, {1, 0, 0, 0}, {LOWEST, 0, 0, 0}, {HIGHEST, 0, 0, 0},
            {0, -10, 0, 0}, {0, 10, 0, 0}, {0, LOWEST, 0, 0}, {0, HIGHEST, 0, 0},
            {0, 0, 'a' - 1, 0}, {0, 0, 'z' + 1, 0}, {0, 0, 'A', 0}, {0, 0, '0', 0}, {0, 0, 1, 0}, {0, 0, 0xffff, 0},
            {0, 0, 0, -1}, {0, 0, 0, 5}, {0, 0, 0, LOWEST}, {0, 0, 0, HIGHEST},
        };
        for (int[] w : wrong) {
            String call = "4: port(" + w[0] + ", " + w[1] + ", " + w[2] + ", " + w[3] + ")";
            Expect.equal(call, p.x.port(w[0], w[1], (char) w[2], w[3]), -1);
        }
        Expect.equal("4: a", p.x.port(0, 9, 'z', 0), 0);
        Expect.equal("4: b", p.x.port(0, -9, 'a', 3), 1);
        Expect.equal("4: c", p.x.port(0, 9, (char) 0, 4), 2);
        Expect.equal("4: d", p.x.port(0, 0, (char) 0, 1), 3);
        Expect.equal("4: a fifth", p.x.port(0, 0, (char) 0, 0), -1);
        p.step(0, 0, 0, 0, 0);
        p.input(0, "3");
        p.x.start(1);
        Expect.equal("4: lesser places first, style 4 not at all", p.command(0), "<-a><3><3><-z><3>");
        Expect.equal("4: ports are counted for each tool", new Probe().tool(1, 0, 0), 0);
    }

    private static void promise5Step() {
        Probe p = new Probe();
        p.tool(0);
        p.tool(1);
        for (int tool : new int[] {-1, 2, LOWEST, HIGHEST}) {
            Expect.equal("5: step(" + tool + ")", p.x.step(tool), -1);
        }
        for (int s = 0; s < 6; s++) {
            Expect.equal("5: step " + s, p.x.step(s % 2), s);
        }
        Expect.equal("5: a seventh", p.x.step(0), -1);
        Expect.equal("5: all run", p.runAll(), 2);
        Expect.equal("5: the first tool", p.output(4), "\"\"");
        Expect.equal("5: the second tool", p.output(5), "0");
    }

    private static void promise6Link() {
        Probe p = new Probe();
        p.step(p.tool(3, 2, 2));
        int[][] wrong = {
            {-1, 0, 0}, {1, 0, 0}, {LOWEST, 0, 0}, {HIGHEST, 0, 0}, {0, -1, 0}, {0, 4, 0}, {0, LOWEST, 0},
            {0, HIGHEST, 0}, {0, 0, -1}, {0, 0, 3}, {0, 0, 9}, {0, 0, 16}, {0, 0, LOWEST}, {0, 0, HIGHEST},
        };
        for (int[] w : wrong) {
            Expect.no("6: link(" + w[0] + ", " + w[1] + ", " + w[2] + ")", p.x.link(w[0], w[1], w[2]));
        }
        for (int source : new int[] {2, 0, 2}) {
            Expect.yes("6: link to " + source, p.x.link(0, 0, source));
        }
        Expect.no("6: a fourth", p.x.link(0, 0, 1));
        Expect.yes("6: another port", p.x.link(0, 1, 1));
        Expect.yes("6: a port that the tool has not", p.x.link(0, 3, 1));
        Expect.yes("6: a step that is not there, for a port that is not", p.x.link(0, 2, 15));
        p.input(0, "10");
        p.input(1, "11");
        p.input(2, "12");
        Expect.equal("6: runs", p.runAll(), 2);
        Expect.equal("6: sources in order", p.output(0), "[\"12\",\"10\",\"12\",\"11\"]");
        Expect.yes("6: a step that is not there yet", p.x.link(0, 1, 11));
        Expect.equal("6: refused", p.x.start(1), 1);
        p.step(0);
        Expect.equal("6: now it is there", p.runAll(), 2);
    }

    private static void promise7Gather() {
        Probe p = new Probe();
        p.step(p.tool(0, 0), 0);
        int[][] wrong = {
            {-1, 0, 0, 0}, {1, 0, 0, 0}, {LOWEST, 0, 0, 0}, {0, -1, 0, 0}, {0, 4, 0, 0}, {0, HIGHEST, 0, 0},
            {0, 0, -1, 0}, {0, 0, 3, 0}, {0, 0, LOWEST, 0}, {0, 0, 0, -1}, {0, 0, 0, 4}, {0, 0, 0, HIGHEST},
        };
        p.input(0, "[null,2]");
        Expect.yes("7: gather", p.x.gather(0, 0, 0, 1));
        for (int[] w : wrong) {
            String call = "7: gather(" + w[0] + ", " + w[1] + ", " + w[2] + ", " + w[3] + ")";
            Expect.no(call, p.x.gather(w[0], w[1], w[2], w[3]));
        }
        Expect.equal("7: runs", p.runAll(), 2);
        Expect.equal("7: wrong ones changed nothing", p.output(0), "\"2\"");
        Expect.yes("7: 2 and 3", p.x.gather(0, 0, 2, 3));
        p.runAll();
        Expect.equal("7: 2 and 3 hold", p.output(0), "\"[2]\"");
        Expect.yes("7: 1 and 0", p.x.gather(0, 0, 1, 0));
        p.runAll();
        Expect.equal("7: 1 and 0 hold", p.output(0), "\"[[null,2]]\"");
        Expect.yes("7: a port that the tool has not", p.x.gather(0, 3, 0, 1));
        Expect.equal("7: counts for nothing", p.runAll(), 2);
    }

    private static void promise8Preset() {
        Probe p = new Probe();
        p.step(p.tool(0, 0), 0);
        Expect.no("8: no step", p.preset(1, 0, "1"));
        Expect.no("8: no step", p.preset(-1, 0, "1"));
        Expect.no("8: no port", p.preset(0, 4, "1"));
        Expect.no("8: no port", p.preset(0, -1, "1"));
        Expect.no("8: no value", p.preset(0, 0, "$(self)"));
        Expect.no("8: empty", p.preset(0, 0, ""));
        Expect.equal("8: runs", p.runAll(), 2);
        Expect.equal("8: none yet", p.output(0), "\"\"");
        Expect.yes("8: preset", p.preset(0, 0, "\"one\""));
        p.runAll();
        Expect.equal("8: in place of NULL", p.output(0), "\"one\"");
        Expect.yes("8: another", p.preset(0, 0, "[2,3]"));
        Expect.no("8: a wrong one", p.preset(0, 0, "[2,3"));
        p.runAll();
        Expect.equal("8: the later one", p.output(0), "\"[2,3]\"");
        p.input(0, "0");
        p.runAll();
        Expect.equal("8: only in place of NULL", p.output(0), "\"0\"");
        p.input(0, "null");
        Expect.yes("8: null", p.preset(0, 0, "null"));
        p.runAll();
        Expect.equal("8: NULL stays", p.output(0), "\"\"");
        Expect.yes("8: a port that the tool has not yet", p.preset(0, 1, "8"));
        p.x.port(0, 0, (char) 0, 0);
        p.runAll();
        Expect.equal("8: now it has", p.output(0), "\"8\"");
        p.type("4");
        Expect.no("8: takes the draft", p.x.preset(7, 7));
        Expect.no("8: whatever it answered", p.x.input(0));
    }

    private static void promise9From() {
        Probe p = new Probe();
        p.step(p.tool(0, 0), 0);
        p.input(0, "[4,5]");
        Expect.no("9: no step", p.from(1, 0, "x"));
        Expect.no("9: no step", p.from(-1, 0, "x"));
        Expect.no("9: no port", p.from(0, 4, "x"));
        Expect.no("9: no port", p.from(0, -1, "x"));
        Expect.no("9: no rule", p.from(0, 0, "$(x)"));
        p.runAll();
        Expect.equal("9: none yet", p.output(0), "\"[4,5]\"");
        Expect.yes("9: rule", p.from(0, 0, "n$(self[1])"));
        p.runAll();
        Expect.equal("9: worked", p.output(0), "\"n5\"");
        Expect.no("9: a wrong one leaves it", p.from(0, 0, "$(self[8])"));
        p.runAll();
        Expect.equal("9: left", p.output(0), "\"n5\"");
        Expect.yes("9: an empty draft is one", p.from(0, 0, ""));
        p.x.start(1);
        Expect.equal("9: an empty text", p.command(0), "<>");
        p.x.finish(0);
        Expect.yes("9: a port that the tool has not yet", p.from(0, 1, "y"));
        p.runAll();
        Expect.equal("9: counts for nothing", p.output(0), "\"\"");
        p.x.port(0, -1, (char) 0, 0);
        p.runAll();
        Expect.equal("9: now it has", p.output(0), "\"y \"");
        p.type("4");
        Expect.no("9: takes the draft", p.x.from(7, 7));
        Expect.no("9: whatever it answered", p.x.input(0));
    }

    private static void promise10When() {
        Probe p = new Probe();
        p.step(p.tool(1, 0), 0);
        p.input(0, "0");
        Expect.no("10: no step", p.when(1, "$(self)"));
        Expect.no("10: no step", p.when(-1, "$(self)"));
        Expect.no("10: no rule", p.when(0, "$(inputs.e)"));
        p.runAll();
        Expect.equal("10: none yet", p.output(0), "1");
        Expect.yes("10: rule", p.when(0, "$(inputs.a)"));
        Expect.equal("10: over at once", p.runAll(), 2);
        Expect.equal("10: skipped", p.output(0), "null");
        Expect.equal("10: not started", p.x.started(), 0);
        Expect.no("10: a wrong one leaves it", p.when(0, "$("));
        p.runAll();
        Expect.equal("10: left", p.output(0), "null");
        Expect.yes("10: an empty draft is one", p.when(0, ""));
        p.runAll();
        Expect.equal("10: an empty text skips nothing", p.output(0), "1");
        p.type("4");
        Expect.no("10: takes the draft", p.x.when(7));
        Expect.no("10: whatever it answered", p.x.input(0));
    }

    private static void promise11Scatter() {
        Probe p = new Probe();
        p.step(p.tool(0, 0, 4), 0, 0);
        p.input(0, "[1,2]");
        int[][] wrong = {
            {-1, 1, 0}, {1, 1, 0}, {LOWEST, 1, 0}, {0, -1, 0}, {0, 16, 0}, {0, HIGHEST, 0}, {0, 1, -1}, {0, 1, 3},
            {0, 1, LOWEST},
        };
        for (int[] w : wrong) {
            Expect.no("11: scatter(" + w[0] + ", " + w[1] + ", " + w[2] + ")", p.x.scatter(w[0], w[1], w[2]));
        }
        p.runAll();
        Expect.equal("11: not scattered", p.output(0), "\"[1,2]\"");
        Expect.yes("11: over a", p.x.scatter(0, 1, 0));
        p.runAll();
        Expect.equal("11: METHOD 0", p.output(0), "[\"1\",\"2\"]");
        Expect.yes("11: over both", p.x.scatter(0, 3, 1));
        p.runAll();
        Expect.equal("11: METHOD 1", p.output(0), "[\"1\",\"1\",\"2\",\"2\"]");
        Expect.yes("11: over all", p.x.scatter(0, 15, 2));
        p.runAll();
        Expect.equal("11: METHOD 2", p.output(0), "[[\"1\",\"1\"],[\"2\",\"2\"]]");
        Expect.yes("11: over ports that the tool has not", p.x.scatter(0, 12, 2));
        p.runAll();
        Expect.equal("11: they do not count", p.output(0), "\"[1,2]\"");
        p.x.scatter(0, 1, 0);
        Expect.yes("11: no more", p.x.scatter(0, 0, 1));
        p.runAll();
        Expect.equal("11: not scattered any more", p.output(0), "\"[1,2]\"");
    }

    private static void promise12Input() {
        Probe p = new Probe();
        p.step(p.tool(3, 2, 2, 2), 0, 1, 2);
        for (int k : new int[] {-1, 3, LOWEST, HIGHEST}) {
            Expect.no("12: input(" + k + ")", p.input(k, "1"));
        }
        Expect.no("12: the draft was taken", p.x.input(0));
        for (int k = 0; k < 3; k++) {
            Expect.yes("12: input " + k, p.input(k, "" + (k + 5)));
        }
        Expect.no("12: none", p.input(1, "x"));
        Expect.no("12: none", p.input(1, ""));
        p.runAll();
        Expect.equal("12: they came", p.output(0), "[\"5\",\"6\",\"7\"]");
        Expect.yes("12: another", p.input(1, "null"));
        Expect.equal("12: what was run stays", p.output(0), "[\"5\",\"6\",\"7\"]");
        p.runAll();
        Expect.equal("12: it came", p.output(0), "[\"5\",\"7\"]");
    }

    private static void buildingIsRefusedWhileARunGoesOn() {
        Probe p = new Probe();
        p.step(p.tool(0, 0), 0);
        p.input(0, "1");
        Expect.equal("refusal: starts", p.x.start(1), 0);
        Expect.equal("refusal: tool", p.x.tool(0), -1);
        Expect.equal("refusal: port", p.x.port(0, 0, (char) 0, 0), -1);
        Expect.equal("refusal: step", p.x.step(0), -1);
        Expect.no("refusal: link", p.x.link(0, 0, 0));
        Expect.no("refusal: gather", p.x.gather(0, 0, 1, 1));
        Expect.no("refusal: scatter", p.x.scatter(0, 1, 0));
        Expect.no("refusal: preset", p.preset(0, 0, "2"));
        Expect.no("refusal: from", p.from(0, 0, "2"));
        Expect.no("refusal: when", p.when(0, "$(self)"));
        Expect.no("refusal: input", p.input(0, "2"));
        Expect.equal("refusal: start", p.x.start(1), -1);
        p.type("9");
        Expect.yes("refusal: the job ends", p.x.finish(0));
        Expect.yes("refusal: write was none, and the drafts were taken", p.x.input(1));
        Expect.equal("refusal: tool is 1 now", p.x.tool(0), 1);
        Expect.equal("refusal: port is 1 now", p.x.port(0, 0, (char) 0, 0), 1);
        Expect.equal("refusal: step is 1 now", p.x.step(0), 1);
        Expect.equal("refusal: nothing was changed", p.runAll(), 2);
        Expect.equal("refusal: the same output", p.output(0), "\"1\"");
    }
}
