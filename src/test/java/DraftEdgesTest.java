/**
 * The sentences on the draft, of the section 'Terms' and of promise 2: which characters it takes,
 * how many, and which calls take it.
 */
public final class DraftEdgesTest {
    private static final String SIXTY = "[\"aaaaaaaaaaaaaaaaaaaaaaaa\",\"bbbbbbbbbbbbbbbbbbbbbbbb\",1234]";

    public static void main(String[] args) {
        characters();
        refusedCharactersAreNotThere();
        sixtyCharacters();
        sixtyCharactersOfARule();
        theSixtyFirstIsNotThere();
        unfinishedAtTheSixtieth();
        whatWasTakenIsGone();
        emptyAgain();
        takenWhateverIsAnswered();
        takenWhileARunGoesOn();
        otherCallsDoNotTakeIt();
        Expect.end();
    }

    /** "false when c is not 32 .. 126" */
    private static void characters() {
        StepRunner x = new StepRunner();
        int calls = 0;
        for (int c = 0; c <= 0xffff; c++) {
            if (calls + 2 > Counted.LIMIT) {
                x = new StepRunner();
                calls = 0;
            }
            Expect.equal("2: write of " + c, x.write((char) c), c >= 32 && c <= 126);
            x.input(0);
            calls += 2;
        }
    }

    private static void refusedCharactersAreNotThere() {
        for (int c : new int[] {0, 9, 10, 31, 127, 128, 160, 255, 256 + '1', 0xffff}) {
            Twins.unchanged("2: write of " + c, p -> { }, p -> p.x.write((char) c), false);
            Probe p = new Probe();
            p.step(p.tool(0, 0), 0);
            p.x.write('1');
            p.x.write((char) c);
            p.x.write('2');
            Expect.yes("2: without " + c + " it is a value", p.x.input(0));
            p.x.start(1);
            Expect.equal("2: the rest of it", p.command(0), "<12>");
        }
    }

    /** "false when .. 60 are there" */
    private static void sixtyCharacters() {
        for (char c : new char[] {' ', '~', 'x'}) {
            Probe p = new Probe();
            for (int n = 1; n <= 60; n++) {
                Expect.yes("2: character " + n, p.x.write(c));
            }
            for (int n = 61; n <= 70; n++) {
                Expect.no("2: character " + n, p.x.write(c));
            }
        }
        Probe p = new Probe();
        p.step(p.tool(3, 2), 0);
        Expect.yes("2: a value of 60", p.input(0, SIXTY));
        p.x.start(1);
        Expect.equal("2: all of it", p.command(0), "<aaaaaaaaaaaaaaaaaaaaaaaa><bbbbbbbbbbbbbbbbbbbbbbbb><1234>");
        Probe q = new Probe();
        Expect.yes("2: a value of 59", q.input(0, SIXTY.replace("1234", "123")));
        Expect.no("2: 59 and one that is not closed", q.input(0, SIXTY.substring(0, 59)));
    }

    private static void sixtyCharactersOfARule() {
        String[] rules = {
            "$(inputs.a)$(inputs.b)$(inputs.c)$(inputs.d)$(self)123456789", "$(self)".repeat(8) + "wxyz",
            "$(self" + "[0]".repeat(15) + ".length" + ")x", "x".repeat(60), "x".repeat(53) + "$(self)",
        };
        for (String rule : rules) {
            Expect.equal("2: as long as can be", rule.length(), 60);
            Probe p = new Probe();
            p.step(p.tool(0, 0));
            Expect.yes("2: a rule of 60: " + rule, p.from(0, 0, rule));
            Expect.yes("2: a WHEN of 60: " + rule, p.when(0, rule));
            Expect.no("2: no rule without its end", p.from(0, 0, rule.replace(")", "").substring(0, 40) + "$("));
        }
        Probe p = new Probe();
        p.step(p.tool(0, 0));
        p.from(0, 0, "$(self.length)".repeat(4) + "abcd");
        p.preset(0, 0, "\"xyz\"");
        p.x.start(1);
        Expect.equal("2: all of it is worked", p.command(0), "<3333abcd>");
    }

    private static void theSixtyFirstIsNotThere() {
        Twins.unchanged("2: the 61st", p -> p.type(SIXTY), p -> p.x.write(']'), false);
        Probe p = new Probe();
        p.type(SIXTY);
        Expect.no("2: the 61st", p.x.write('x'));
        Expect.yes("2: the value of the 60", p.x.input(0));
        Probe q = new Probe();
        q.type(SIXTY.substring(0, 59));
        Expect.no("2: refused at 59", q.x.write((char) 127));
        Expect.yes("2: there is room for one", q.x.write(']'));
        Expect.no("2: and for no other", q.x.write(']'));
        Expect.yes("2: a value", q.x.input(0));
    }

    /** What ends too early at the 60th character is neither a value nor a rule. */
    private static void unfinishedAtTheSixtieth() {
        String[] ends = {"$(", "$(s", "$(self", "$(self.", "$(self.length", "$(self[", "$(self[0", "$(self[0]", "$(i", "$(inputs",
            "$(inputs.", "$(inputs.a", "$(inputs.a[", "$(inputs.a[7", "$(inputs.a.lengt"};
        for (String end : ends) {
            for (int length = end.length(); length <= 60; length++) {
                Probe p = withStep();
                p.type("x".repeat(length - end.length()) + end);
                Expect.no("2: no rule of " + length + ": " + end, length % 2 == 0 ? p.x.from(0, 0) : p.x.when(0));
            }
        }
        String[] values = {"[", "\"", "-", "[1,", "[\"", "[-", "[n", "[nul", "[[", "[[]", "[null"};
        for (String end : values) {
            int letters = 26 - end.length();
            String texts = "b".repeat(letters / 2) + "\",\"" + "c".repeat(letters - letters / 2);
            String full = "[\"aaaaaaaaaaaaaaaaaaaaaaaa\",\"" + texts + "\"," + end;
            Expect.equal("2: as long as can be", full.length(), 60);
            Expect.no("2: no value of 60: " + full, new Probe().input(0, full));
            Expect.no("2: no value: " + end, new Probe().input(0, end));
        }
    }

    /** What was there before is not read again behind what is there now. */
    private static void whatWasTakenIsGone() {
        String[] values = {"[1,2]", "[[[]]]", "\"abc\"", "null", SIXTY};
        for (String value : values) {
            for (int length = 1; length < value.length(); length++) {
                Probe p = new Probe();
                Expect.yes("2: all of it", p.input(0, value));
                Expect.no("2: not its first " + length, p.input(0, value.substring(0, length)));
            }
        }
        Probe n = new Probe();
        n.step(n.tool(0, 0), 0);
        n.input(0, "123456");
        Expect.yes("2: a shorter number", n.input(0, "7"));
        n.x.start(1);
        Expect.equal("2: without the digits of the longer", n.command(0), "<7>");
        for (String rule : new String[] {"$(self)", "$(inputs.a[0])", "$(self.length[7])", "x".repeat(53) + "$(self)"}) {
            for (int length = rule.indexOf('(') + 1; length < rule.length(); length++) {
                Probe p = withStep();
                Expect.yes("2: all of it", p.from(0, 0, rule));
                Expect.no("2: not its first " + length, p.from(0, 0, rule.substring(0, length)));
                Expect.yes("2: all of it again", p.when(0, rule));
                Expect.no("2: not its first " + length + " again", p.when(0, rule.substring(0, length)));
            }
        }
    }

    private static void emptyAgain() {
        Probe p = new Probe();
        for (int round = 0; round < 3; round++) {
            p.type(SIXTY);
            Expect.no("2: full", p.x.write('x'));
            Expect.yes("2: taken", p.x.input(0));
            Expect.no("2: empty then", p.x.input(0));
        }
    }

    private static Probe withStep() {
        Probe p = new Probe();
        p.step(p.tool(1, 0), 0);
        return p;
    }

    private static void isEmpty(String what, Probe p) {
        Expect.no("the draft is empty behind " + what, p.x.input(0));
        Expect.yes("and may be written behind " + what, p.input(0, "7"));
    }

    /** "input, preset, from and when take it (it is empty then, whatever they answer)" */
    private static void takenWhateverIsAnswered() {
        for (String draft : new String[] {"5", "x$(", SIXTY, "$(self)"}) {
            for (int wrong = 0; wrong < 3; wrong++) {
                int step = wrong == 1 ? 1 : 0;
                int port = wrong == 2 ? 4 : 0;
                Probe p = withStep();
                p.input(wrong == 0 ? 0 : wrong == 1 ? 3 : -1, draft);
                isEmpty("input of " + draft + ", " + wrong, p);
                p = withStep();
                p.preset(step, port, draft);
                isEmpty("preset of " + draft + ", " + wrong, p);
                p = withStep();
                p.from(step, port, draft);
                isEmpty("from of " + draft + ", " + wrong, p);
                p = withStep();
                p.when(wrong == 2 ? -1 : step, draft);
                isEmpty("when of " + draft + ", " + wrong, p);
            }
        }
    }

    /** "a draft that they would take is empty then" */
    private static void takenWhileARunGoesOn() {
        for (int taker = 0; taker < 4; taker++) {
            Probe p = withStep();
            p.x.start(1);
            p.type("5");
            boolean answer = taker == 0 ? p.x.input(0) : taker == 1 ? p.x.preset(0, 0)
                : taker == 2 ? p.x.from(0, 0) : p.x.when(0);
            Expect.no("refused while a run goes on", answer);
            Expect.yes("it ends", p.x.finish(0));
            isEmpty("call " + taker + " while a run goes on", p);
        }
    }

    /** No other call takes the draft, whatever it answers. */
    private static void otherCallsDoNotTakeIt() {
        Probe p = withStep();
        p.type("[4");
        p.x.tool(0);
        p.x.tool(9);
        p.x.port(0, 0, 'k', 0);
        p.x.port(0, 99, 'k', 0);
        p.x.step(1);
        p.x.step(9);
        p.x.link(0, 1, 0);
        p.x.link(0, 9, 0);
        p.x.gather(0, 0, 0, 0);
        p.x.gather(0, 0, 9, 0);
        p.x.scatter(0, 0, 0);
        p.x.scatter(0, 99, 0);
        p.x.start(9);
        p.x.start(1);
        p.x.start(1);
        p.tell();
        p.x.tool(0);
        p.x.port(0, 0, 'k', 0);
        p.x.step(0);
        p.x.link(0, 1, 0);
        p.x.gather(0, 0, 0, 0);
        p.x.scatter(0, 0, 0);
        p.x.finish(9);
        while (p.x.finish(0)) {
            p.tell();
        }
        p.type(",2]");
        Expect.yes("the draft is a value", p.x.input(0));
        p.x.start(1);
        Expect.equal("with both its parts", p.command(0), "<[4,2]><-k><[4,2]>");
    }
}
