/** The terms of the document: values, rules, expansions, commands and results, with their edges. */
public final class TermsTest {
    private static final String LONGEST = "123456789012345678901234";

    public static void main(String[] args) {
        formsAreValues();
        otherDraftsAreNone();
        rulesAreRead();
        rulesAreWorked();
        rulesSeeTheValuesBefore();
        conditionsSkip();
        sourcesAreMerged();
        elementsArePicked();
        presetsComeAfterPicks();
        methodsOfScattering();
        nestedOutputs();
        tooManyJobs();
        commands();
        limitsOfCommands();
        results();
        limitsOfResults();
        numbersOfWords();
        Expect.end();
    }

    /** What a value becomes when it goes through ITEMS with style 0: the form of [plain]. */
    private static String plainOf(String form) {
        Probe p = new Probe();
        p.step(p.tool(3, 0), 0);
        Expect.yes("input of " + form, p.input(0, form));
        p.x.start(1);
        return p.command(0);
    }

    private static void formsAreValues() {
        String[] forms = {
            "0", "7", "-1", "999999", "-999999", "100000", "[0]", "[1,2]", "[[1],[],[2]]", "[[[7]]]", "[[[]]]",
            "[1,2,3,4,5,6,7,8]", "[null,-5]", "[\"\"]", "[\",\",\"]\"]", "[\"a b\"]", "[[[1,2],3],4]",
        };
        for (String form : forms) {
            Expect.equal("plain of " + form, plainOf(form), "<" + form + ">");
        }
        Expect.equal("plain of a text", plainOf("\"a[1],b\""), "<a[1],b>");
        Expect.equal("plain of an empty text", plainOf("\"\""), "<>");
        Expect.equal("plain of the longest", plainOf('"' + LONGEST + '"'), "<" + LONGEST + ">");
        Expect.equal("NULL is not in the command", plainOf("null"), "");
        Expect.equal("nor is an empty list", plainOf("[]"), "");
        Expect.equal("every character but two", plainOf("\" !#$%&'()*+,-./09:;<=>?@\""), "< !#$%&'()*+,-./09:;<=>?@>");
    }

    private static void otherDraftsAreNone() {
        String[] drafts = {
            "", " ", "00", "01", "-0", "-01", "-", "--1", "+1", "1.0", "1000000", "-1000000", "1 ", " 1", "nul",
            "nulls",
            "NULL", "Null", "\"", "\"a", "a\"", "\"a\"b\"", "\"\\\"", "\"a\\\\\"", "'a'", "\"" + LONGEST + "5\"",
            "[",
            "]", "[]]", "[[]", "[,]", "[1,]", "[,1]", "[1,,2]", "[1 ,2]", "[1, 2]", "[1", "[1,", "[1]2", "[[[[]]]]",
            "[[[[1]]]]", "[1,2,3,4,5,6,7,8,9]", "[[[]],[[[]]]]", "1,2", "null,", "[01]", "[-0]", "[\"]", "{}", "true",
            "[[[[[[[[[[[[[[[[[[[[[[[[[[[[[[[[[[[[[[[[[[[[[[[[[[[[[[[[[[[[",
        };
        for (String draft : drafts) {
            Expect.no("input of " + draft, new Probe().input(0, draft));
        }
    }

    private static void rulesAreRead() {
        String[] rules = {
            "", "a", "$", "$$", "$a(", "( )", "\"", "\\", "$(self)", "$(inputs.a)", "$(inputs.d)", "$(self[0])",
            "$(self[7])", "$(self.length)", "$(self.length[0].length)", "$(inputs.b[1][2].length)", "x$(self)y",
            "$(self)$(self)", "$$(self)", "$(self))", "$ (x)", "inputs.e", "(self", "$(self)$",
        };
        String[] others = {
            "$(", "$()", "$(self", "$(self) $(", "$(x)", "$(Self)", "$(selfish)", "$( self)", "$(self )", "$(self.)",
            "$(self.lengths)", "$(self.len)", "$(self[])", "$(self[8])", "$(self[9])", "$(self[-1])", "$(self[0)",
            "$(self[00])", "$(self[a])", "$(inputs)", "$(inputs.)", "$(inputs.e)", "$(inputs.A)", "$(inputs.ab)",
            "$(inputs.a", "$(inputs.a.b)", "$(inputs[0])", "a$(b)", "$$(", "$($(self))", "$(self.length", "$(self[0]",
            "$(sel", "$(inputs.a.length[)", "$(self$(self))", "$(self[/])", "$(self[ ])", "$(self[:])", "$(self[0))",
            "$(self(0])", "$(self[0]]",
        };
        for (String rule : rules) {
            Probe p = new Probe();
            p.step(p.tool(0));
            Expect.yes("from of " + rule, p.from(0, 0, rule));
            Expect.yes("when of " + rule, p.when(0, rule));
        }
        for (String rule : others) {
            Probe p = new Probe();
            p.step(p.tool(0));
            Expect.no("from of " + rule, p.from(0, 0, rule));
            Expect.no("when of " + rule, p.when(0, rule));
        }
    }

    /** The command of a step with the ports a (input 0), b (input 1) and c (no source) and a rule for a. */
    private static String worked(String a, String b, String rule) {
        Probe p = new Probe();
        p.step(p.tool(0, 0, 4, 4), 0, 1);
        p.input(0, a);
        p.input(1, b);
        Expect.yes("rule " + rule, p.from(0, 0, rule));
        p.x.start(1);
        return p.x.status() == 3 ? "fails" : p.command(0);
    }

    private static void rulesAreWorked() {
        String[][] rows = {
            {"[1,[2,\"x\"]]", "$(self)", "<[1,[2,\"x\"]]>"}, {"[1,[2,\"x\"]]", "$(self[1][1])", "<x>"},
            {"[1,[2,\"x\"]]", "$(self[1])", "<[2,\"x\"]>"}, {"[1,[2,\"x\"]]", "$(self[1].length)", "<2>"},
            {"[1,[2,\"x\"]]", "$(self[2])", "fails"}, {"[1,[2,\"x\"]]", "$(self[0][0])", "fails"},
            {"[1,[2,\"x\"]]", "$(self[0].length)", "fails"}, {"[1,[2,\"x\"]]", "$(self[1][1].length)", "<1>"},
            {"[1,[2,\"x\"]]", "$(self.length.length)", "fails"}, {"[1,[2,\"x\"]]", "$(self.length[0])", "fails"},
            {"[1,[2,\"x\"]]", "a$(self)", "fails"}, {"[1,[2,\"x\"]]", "a$(self[1][1])b", "<axb>"},
            {"[1,[2,\"x\"]]", "$(self[0])$(self[0])", "<11>"}, {"[1,[2]]", "v$(self)", "<v[1,[2]]>"},
            {"[]", "$(self.length)", "<0>"}, {"[]", "$(self[0])", "fails"}, {"[null]", "$(self[0])", ""},
            {"[null]", "$(self[0])!", "<null!>"}, {"null", "$(self)", ""}, {"null", "$(self).", "<null.>"},
            {"null", "$(self.length)", "fails"}, {"5", "$(self.length)", "fails"}, {"5", "$(self[0])", "fails"},
            {"\"abc\"", "$(self.length)", "<3>"}, {"\"\"", "$(self.length)", "<0>"}, {"\"abc\"", "$(self[0])", "fails"},
            {"\"abc\"", "$(inputs.b)", "<9>"}, {"\"abc\"", "$(inputs.a)$(inputs.b)", "<abc9>"},
            {"1", "$(inputs.c)", ""}, {"1", "$(inputs.d)", ""}, {"1", "$(inputs.d)$(inputs.c)", "<nullnull>"},
            {"1", "$(inputs.d.length)", "fails"}, {"1", "", "<>"}, {"1", "$x(self) $", "<$x(self) $>"},
            {"1", "a\"", "fails"}, {"1", "a\\", "fails"}, {"1", LONGEST, "<" + LONGEST + ">"},
            {"1", LONGEST + "5", "fails"}, {"\"" + LONGEST + "\"", "$(self)", "<" + LONGEST + ">"},
            {"\"" + LONGEST + "\"", "$(self)$(inputs.b)", "fails"}, {"-12", "$(self)$(self)", "<-12-12>"},
            {"1", "12345678901234567890123$(self)", "<123456789012345678901231>"},
            {"12", "12345678901234567890123$(self)", "fails"}, {"\"$(self)\"", "<$(self)>", "<<$(self)>>"},
            {"[[1,2,3],[4,5]]", "$(self[0].length)$(self[1].length)$(self.length)", "<322>"},
        };
        for (String[] row : rows) {
            Expect.equal(row[1] + " of " + row[0], worked(row[0], "9", row[1]), row[2]);
        }
        String longest = '"' + LONGEST + '"';
        String four = "$(self.length)$(self.length)$(self.length)$(self.length)";
        Expect.equal("a rule of 60 characters", worked("\"abc\"", "9", four + "abcd"), "<3333abcd>");
        Expect.equal("24 and an empty text", worked(longest, "\"\"", "$(self)$(inputs.b)"), "<" + LONGEST + ">");
        Expect.equal("24 and 1", worked(longest, "1", "$(self)$(inputs.b)"), "fails");
        Expect.equal("a form of 25 in a text", worked("[123456,123456,123456,12]", "\"\"", "$(inputs.b)$(self)"),
            "fails");
        Expect.equal("a form of 24 in a text", worked("[123456,123456,123456,1]", "\"\"", "$(inputs.b)$(self)"),
            "<[123456,123456,123456,1]>");
    }

    private static void rulesSeeTheValuesBefore() {
        Probe p = new Probe();
        p.step(p.tool(3, 0, 0, 4), 0, 1, 2);
        p.input(0, "1");
        p.input(1, "2");
        p.input(2, "0");
        p.from(0, 0, "$(inputs.b)");
        p.from(0, 1, "$(inputs.a)$(self)");
        p.from(0, 2, "$(inputs.a)");
        p.when(0, "$(inputs.c)");
        p.runAll();
        Expect.equal("swapped, and WHEN sees the new values", p.output(0), "[\"2\",\"12\"]");
        p.from(0, 2, "$(self)");
        p.runAll();
        Expect.equal("WHEN sees 0", p.output(0), "null");
    }

    private static void conditionsSkip() {
        String[][] rows = {
            {"null", "$(inputs.a)", "null"}, {"0", "$(inputs.a)", "null"}, {"1", "$(inputs.a)", "1"},
            {"-1", "$(inputs.a)", "1"}, {"\"\"", "$(inputs.a)", "1"}, {"\"0\"", "$(inputs.a)", "1"},
            {"[]", "$(inputs.a)", "0"}, {"[0]", "$(inputs.a)", "1"}, {"[0]", "$(inputs.a[0])", "null"},
            {"[]", "$(inputs.a.length)", "null"}, {"\"\"", "$(inputs.a.length)", "null"}, {"7", "$(self)", "null"},
            {"7", "$(inputs.d)", "null"}, {"7", "0", "1"}, {"7", "null", "1"}, {"7", "", "1"},
            {"0", "$(inputs.a) ", "1"},
            {"7", "$(self.length)", null}, {"7", "$(inputs.a[0])", null}, {"7", "\"", null}, {"7", LONGEST + "5", null},
        };
        for (String[] row : rows) {
            Probe p = new Probe();
            p.step(p.tool(1, 0), 0);
            p.input(0, row[0]);
            p.when(0, row[1]);
            Expect.equal("status", p.runAll(), row[2] == null ? 3 : 2);
            Expect.equal("WHEN " + row[1] + " of " + row[0], p.output(0), row[2]);
            Expect.equal("state", p.x.state(0), row[2] == null ? 3 : 2);
        }
        Probe p = new Probe();
        p.step(p.tool(1, 0), 0);
        p.input(0, "\"a\"");
        p.when(0, "$(self)");
        p.from(0, 0, "$(self[0])");
        Expect.equal("a rule that fails is not skipped", p.runAll(), 3);
        Probe q = new Probe();
        q.step(q.tool(1, 0), 0);
        q.input(0, "[1,2,3,4,5,6,7,8]");
        q.x.gather(0, 0, 0, 0);
        q.when(0, "$(self)");
        q.from(0, 0, "$(self)");
        q.x.port(0, 0, 'a', 2);
        q.x.link(0, 1, 0);
        Expect.equal("a skipped job has no command that could fail", q.runAll(), 2);
    }

    /** The words of a COUNT step with one port of style 0 with the sources 0, 1, 2 as far as forms are given. */
    private static String gathered(int merge, int pick, String... forms) {
        Probe p = new Probe();
        p.step(p.tool(1, 0));
        for (int k = 0; k < forms.length; k++) {
            p.x.link(0, 0, k);
            p.input(k, forms[k]);
        }
        p.x.gather(0, 0, merge, pick);
        p.x.start(1);
        return p.x.status() == 3 ? "fails" : p.command(0);
    }

    private static void sourcesAreMerged() {
        Expect.equal("none", gathered(0, 0), "");
        Expect.equal("none, MERGE 1", gathered(1, 0), "");
        Expect.equal("none, MERGE 2", gathered(2, 0), "");
        Expect.equal("one", gathered(0, 0, "[1]"), "<[1]>");
        Expect.equal("one, MERGE 1", gathered(1, 0, "[1]"), "<[[1]]>");
        Expect.equal("one, MERGE 2", gathered(2, 0, "[1]"), "<[1]>");
        Expect.equal("one that is no list, MERGE 1", gathered(1, 0, "1"), "<[1]>");
        Expect.equal("one that is no list, MERGE 2", gathered(2, 0, "1"), "<[1]>");
        Expect.equal("one NULL, MERGE 1", gathered(1, 0, "null"), "<[null]>");
        Expect.equal("one NULL, MERGE 2", gathered(2, 0, "null"), "<[null]>");
        Expect.equal("an empty list, MERGE 2", gathered(2, 0, "[]"), "");
        Expect.equal("an empty list, MERGE 1", gathered(1, 0, "[]"), "<[[]]>");
        Expect.equal("three, MERGE 0", gathered(0, 0, "[1]", "2", "[]"), "<[[1],2,[]]>");
        Expect.equal("three, MERGE 1", gathered(1, 0, "[1]", "2", "[]"), "<[[1],2,[]]>");
        Expect.equal("three, MERGE 2", gathered(2, 0, "[1,[3]]", "2", "[]"), "<[1,[3],2]>");
        Expect.equal("eight, MERGE 2", gathered(2, 0, "[1,2,3]", "[4,5,6,7]", "8"), "<[1,2,3,4,5,6,7,8]>");
        Expect.equal("nine by a list, MERGE 2", gathered(2, 0, "[1,2]", "3", "[4,5,6,7,8,9]"), "fails");
        Expect.equal("nine, MERGE 2", gathered(2, 0, "[1,2,3]", "[4,5,6,7,8]", "9"), "fails");
        Expect.equal("too deep, MERGE 1", gathered(1, 0, "[[[1]]]"), "fails");
        Expect.equal("too deep, MERGE 0", gathered(0, 0, "1", "[[[1]]]"), "fails");
        Expect.equal("not too deep, MERGE 2", gathered(2, 0, "[[[1]]]", "2"), "<[[[1]],2]>");
        Expect.equal("too deep before the pick", gathered(1, 1, "1", "[[[1]]]"), "fails");
        Expect.equal("too long before the pick", gathered(2, 1, "[1,2,3,4,5,6,7,8]", "9"), "fails");
    }

    private static void elementsArePicked() {
        Expect.equal("no list", gathered(0, 1, "1"), "fails");
        Expect.equal("no list", gathered(0, 2, "\"a\""), "fails");
        Expect.equal("no list", gathered(0, 3, "null"), "fails");
        Expect.equal("no source", gathered(1, 3), "fails");
        Expect.equal("first", gathered(0, 1, "[null,0,1]"), "<0>");
        Expect.equal("first of none", gathered(0, 1, "[null]"), "fails");
        Expect.equal("first of the empty", gathered(0, 1, "[]"), "fails");
        Expect.equal("the one", gathered(0, 2, "[null,\"a\",null]"), "<a>");
        Expect.equal("the one of two", gathered(0, 2, "[1,1]"), "fails");
        Expect.equal("the one of none", gathered(0, 2, "[null,null]"), "fails");
        Expect.equal("all", gathered(0, 3, "[null,1,[null],null,\"\"]"), "<[1,[null],\"\"]>");
        Expect.equal("all of none", gathered(0, 3, "[null]"), "");
        Expect.equal("first of three sources", gathered(0, 1, "null", "[5]", "6"), "<[5]>");
        Expect.equal("all of three sources", gathered(2, 3, "null", "[null,5]", "6"), "<[5,6]>");
    }

    private static void presetsComeAfterPicks() {
        Probe p = new Probe();
        p.step(p.tool(0, 0), 0);
        p.preset(0, 0, "[7,8]");
        p.x.gather(0, 0, 0, 1);
        Expect.equal("NULL cannot be picked from", p.runAll(), 3);
        p.x.gather(0, 0, 1, 3);
        p.x.start(1);
        Expect.equal("an empty list is not NULL", p.command(0), "");
        p.x.finish(0);
        p.x.gather(0, 0, 0, 0);
        p.x.scatter(0, 1, 0);
        Expect.equal("a preset can be scattered over", p.runAll(), 2);
        Expect.equal("its output", p.output(0), "[\"7\",\"8\"]");
        p.from(0, 0, "$(self)$(inputs.a)");
        p.runAll();
        Expect.equal("rules see the elements", p.output(0), "[\"77\",\"88\"]");
        p.input(0, "[null,1]");
        p.runAll();
        Expect.equal("elements that are NULL get no preset", p.output(0), "[\"nullnull\",\"11\"]");
    }

    /** The output of ECHO steps with ports a, b, c of style 0 scattered over those with forms; null when it fails. */
    private static String scattered(int method, String... forms) {
        Probe p = new Probe();
        p.step(p.tool(0, 0, 0, 0), 0, 1, 2);
        for (int k = 0; k < forms.length; k++) {
            p.input(k, forms[k]);
        }
        p.x.scatter(0, (1 << forms.length) - 1, method);
        p.runAll();
        return p.output(0);
    }

    private static void methodsOfScattering() {
        Expect.equal("0: one", scattered(0, "[1,2]"), "[\"1\",\"2\"]");
        Expect.equal("1: one", scattered(1, "[1,2]"), "[\"1\",\"2\"]");
        Expect.equal("2: one", scattered(2, "[1,2]"), "[\"1\",\"2\"]");
        Expect.equal("0: two", scattered(0, "[1,2]", "[3,4]"), "[\"1 3\",\"2 4\"]");
        Expect.equal("0: two of unlike lengths", scattered(0, "[1,2]", "[3]"), null);
        Expect.equal("0: three, the last unlike", scattered(0, "[1,2]", "[3,4]", "[]"), null);
        Expect.equal("0: three", scattered(0, "[1,2]", "[3,4]", "[5,6]"), "[\"1 3 5\",\"2 4 6\"]");
        Expect.equal("1: two", scattered(1, "[1,2]", "[3,4,5]"),
            "[\"1 3\",\"1 4\",\"1 5\",\"2 3\",\"2 4\",\"2 5\"]");
        Expect.equal("0: empty", scattered(0, "[]", "[]"), "[]");
        Expect.equal("1: empty", scattered(1, "[1,2]", "[]"), "[]");
        Expect.equal("0: no list", scattered(0, "1"), null);
        Expect.equal("1: no list", scattered(1, "[1]", "null"), null);
        Expect.equal("2: no list", scattered(2, "[]", "\"a\""), null);
        Expect.equal("0: elements of NULL and lists", scattered(0, "[null,[],[1]]"), "[\"\",\"\",\"[1]\"]");
        Expect.equal("1: nine results are no list", scattered(1, "[1,2,3]", "[1,2,3]"), null);
        Expect.equal("1: eight are", scattered(1, "[1,2]", "[1,2,3,4]"),
            "[\"1 1\",\"1 2\",\"1 3\",\"1 4\",\"2 1\",\"2 2\",\"2 3\",\"2 4\"]");
        Probe p = new Probe();
        p.step(p.tool(0, 4, 0, 4), -1, 0);
        p.input(0, "[1,2]");
        p.x.scatter(0, 10, 2);
        p.runAll();
        Expect.equal("one port that is there is one port", p.output(0), "[\"1\",\"2\"]");
    }

    private static void nestedOutputs() {
        Expect.equal("two", scattered(2, "[1,2]", "[3,4,5]"),
            "[[\"1 3\",\"1 4\",\"1 5\"],[\"2 3\",\"2 4\",\"2 5\"]]");
        Expect.equal("three", scattered(2, "[1,2]", "[3]", "[5,6]"),
            "[[[\"1 3 5\",\"1 3 6\"]],[[\"2 3 5\",\"2 3 6\"]]]");
        Expect.equal("nine in threes", scattered(2, "[1,2,3]", "[1,2,3]"),
            "[[\"1 1\",\"1 2\",\"1 3\"],[\"2 1\",\"2 2\",\"2 3\"],[\"3 1\",\"3 2\",\"3 3\"]]");
        Expect.equal("the first is empty", scattered(2, "[]", "[1,2]"), "[]");
        Expect.equal("the second is empty", scattered(2, "[1,2]", "[]"), "[[],[]]");
        Expect.equal("the second of three is empty", scattered(2, "[1,2]", "[]", "[1]"), "[[],[]]");
        Expect.equal("the third is empty", scattered(2, "[1,2]", "[1]", "[]"), "[[[]],[[]]]");
        for (int kind = 1; kind < 4; kind += 2) {
            Probe p = new Probe();
            p.step(p.tool(kind, 4, 4, 4), 0, 0, 0);
            p.input(0, "[1]");
            p.x.scatter(0, 7, 2);
            Expect.equal("three deep", p.runAll(), kind == 1 ? 2 : 3);
            Expect.equal("ITEMS would be four deep", p.output(0), kind == 1 ? "[[[0]]]" : null);
            p.x.port(0, 0, (char) 0, 4);
            p.x.link(0, 3, 0);
            p.x.scatter(0, 15, 2);
            Expect.equal("four ports are four deep", p.runAll(), 3);
        }
    }

    private static void tooManyJobs() {
        Probe p = new Probe();
        p.step(p.tool(1, 4, 4, 4, 4), 0, 1);
        p.input(0, "[1,2,3,4]");
        p.input(1, "[1,2,3,4]");
        p.x.scatter(0, 3, 2);
        Expect.equal("16 jobs", p.runAll(), 2);
        Expect.equal("16 were started", p.x.started(), 16);
        Expect.equal("16 results", p.output(0), "[[0,0,0,0],[0,0,0,0],[0,0,0,0],[0,0,0,0]]");
        p.when(0, "$(self)");
        p.input(0, "[1,2,3,4,5]");
        Expect.equal("20 jobs, all skipped", p.runAll(), 3);
        Expect.equal("they fail while it is expanded", p.x.state(0), 3);
        p.input(1, "[1,2,3]");
        Expect.equal("15 jobs, all skipped", p.runAll(), 2);
        p.x.scatter(0, 3, 1);
        Expect.equal("15 results of METHOD 1", p.runAll(), 3);
        p.x.link(0, 2, 0);
        p.x.link(0, 3, 2);
        p.x.scatter(0, 15, 1);
        p.input(2, "[]");
        Expect.equal("75 times 0 jobs", p.runAll(), 2);
        Expect.equal("an empty list", p.output(0), "[]");
    }

    /** The command of a tool with one port, on a value. */
    private static String commandOf(char prefix, int style, String form) {
        Probe p = new Probe();
        p.x.tool(0);
        p.x.port(0, 0, prefix, style);
        p.step(0, 0);
        p.input(0, form);
        p.x.start(1);
        return p.x.status() == 3 ? "fails" : p.command(0);
    }

    private static void commands() {
        String list = "[1,\"a b\",[2,\"c\"],null]";
        String[] plain = {"<[1,\"a b\",[2,\"c\"],null]>", "<[1,\"a b\",[2,\"c\"],null]>",
            "<1><a b><[2,\"c\"]><null>", "<1,a b,[2,\"c\"],null>", ""};
        String[] named = {"<-k><[1,\"a b\",[2,\"c\"],null]>", "<-k[1,\"a b\",[2,\"c\"],null]>",
            "<-k><1><a b><[2,\"c\"]><null>", "<-k><1,a b,[2,\"c\"],null>", ""};
        for (int style = 0; style < 5; style++) {
            boolean shown = style < 4;
            String word = style == 1 ? "<-k" : "<-k><";
            Expect.equal("list, style " + style, commandOf((char) 0, style, list), plain[style]);
            Expect.equal("list, prefix, style " + style, commandOf('k', style, list), named[style]);
            Expect.equal("text, style " + style, commandOf((char) 0, style, "\"x y\""), shown ? "<x y>" : "");
            Expect.equal("text, prefix, style " + style, commandOf('k', style, "\"x\""), shown ? word + "x>" : "");
            Expect.equal("empty text, style " + style, commandOf((char) 0, style, "\"\""), shown ? "<>" : "");
            Expect.equal("empty text, prefix, style " + style, commandOf('k', style, "\"\""), shown ? word + ">" : "");
            Expect.equal("number, prefix, style " + style, commandOf('k', style, "-40"), shown ? word + "-40>" : "");
            Expect.equal("NULL, style " + style, commandOf('k', style, "null"), "");
            Expect.equal("empty list, style " + style, commandOf('k', style, "[]"), "");
        }
        Probe p = new Probe();
        p.x.tool(0);
        p.x.port(0, 1, 'a', 0);
        p.x.port(0, -9, 'b', 0);
        p.x.port(0, 1, 'c', 0);
        p.x.port(0, 0, 'd', 1);
        p.step(0, 0, 0, 0, 0);
        p.input(0, "5");
        p.x.start(1);
        Expect.equal("by place, then in order", p.command(0), "<-b><5><-d5><-a><5><-c><5>");
    }

    private static void limitsOfCommands() {
        String eight = "[1,2,3,4,5,6,7,8]";
        Expect.equal("eight words", commandOf((char) 0, 2, eight), "<1><2><3><4><5><6><7><8>");
        Expect.equal("nine words", commandOf('p', 2, eight), "fails");
        Expect.equal("eight words with a prefix", commandOf('p', 2, "[1,2,3,4,5,6,7]"), "<-p><1><2><3><4><5><6><7>");
        Expect.equal("24 characters", commandOf((char) 0, 1, '"' + LONGEST + '"'), "<" + LONGEST + ">");
        Expect.equal("24 characters behind a prefix word", commandOf('p', 0, '"' + LONGEST + '"'),
            "<-p><" + LONGEST + ">");
        Expect.equal("26 characters", commandOf('p', 1, '"' + LONGEST + '"'), "fails");
        Expect.equal("24 with the prefix", commandOf('p', 1, "\"1234567890123456789012\""),
            "<-p1234567890123456789012>");
        Expect.equal("25 with the prefix", commandOf('p', 1, "\"12345678901234567890123\""), "fails");
        Expect.equal("24 with commas", commandOf((char) 0, 3, "[\"12345678901234567890\",234]"),
            "<12345678901234567890,234>");
        Expect.equal("25 with commas", commandOf((char) 0, 3, "[\"12345678901234567890\",2345]"), "fails");
        Expect.equal("25 with commas, by the comma", commandOf((char) 0, 3, "[\"" + LONGEST + "\",\"\"]"), "fails");
        Expect.equal("a form of 24", commandOf((char) 0, 0, "[\"12345678901234567890\"]"),
            "<[\"12345678901234567890\"]>");
        Expect.equal("a form of 25", commandOf((char) 0, 0, "[\"123456789012345678901\"]"), "fails");
        Expect.equal("an element's form of 24", commandOf((char) 0, 2, "[[\"12345678901234567890\"],1]"),
            "<[\"12345678901234567890\"]><1>");
        Expect.equal("an element's form of 25", commandOf((char) 0, 2, "[[\"123456789012345678901\"],1]"), "fails");
        Expect.equal("a hidden port has no limits", commandOf('p', 4, "[\"" + LONGEST + "\",1]"), "");
    }

    /** The output of a step with one port of style 2 by its kind; null when it fails. */
    private static String resultOf(int kind, String form) {
        Probe p = new Probe();
        p.step(p.tool(kind, 2), 0);
        p.input(0, form);
        Expect.equal("it is started", p.x.start(1), 0);
        Expect.equal("it runs", p.x.running(), 1);
        p.x.finish(0);
        Expect.equal("it failed, or is done", p.x.state(0), p.output(0) == null ? 3 : 2);
        Expect.equal("so has the run", p.x.status(), p.output(0) == null ? 3 : 2);
        return p.output(0);
    }

    private static void results() {
        String[][] rows = {
            {"null", "\"\"", "0", "0", "[]"}, {"5", "\"5\"", "1", "5", "[\"5\"]"},
            {"[1,-2]", "\"1 -2\"", "2", "-1", "[\"1\",\"-2\"]"},
            {"[\"\",\"\",\"\"]", "\"  \"", "3", null, "[\"\",\"\",\"\"]"},
            {"[[\"a\"]]", null, "1", null, null}, {"[[1]]", "\"[1]\"", "1", null, "[\"[1]\"]"},
            {"[\"7\",\"30\"]", "\"7 30\"", "2", "37", "[\"7\",\"30\"]"}, {"\"\"", "\"\"", "1", null, "[\"\"]"},
            {"[null]", "\"null\"", "1", null, "[\"null\"]"},
        };
        for (String[] row : rows) {
            for (int kind = 0; kind < 4; kind++) {
                Expect.equal("kind " + kind + " of " + row[0], resultOf(kind, row[0]), row[kind + 1]);
            }
        }
    }

    private static void limitsOfResults() {
        Expect.equal("ECHO of 24", resultOf(0, "[\"12345678901234567890\",123]"), "\"12345678901234567890 123\"");
        Expect.equal("ECHO of 25", resultOf(0, "[\"12345678901234567890\",1234]"), null);
        Expect.equal("ECHO of 25, by the blank", resultOf(0, "[\"" + LONGEST + "\",\"\"]"), null);
        Expect.equal("ITEMS of eight", resultOf(3, "[1,2,3,4,5,6,7,8]"),
            "[\"1\",\"2\",\"3\",\"4\",\"5\",\"6\",\"7\",\"8\"]");
        Expect.equal("ITEMS of the longest", resultOf(3, "[\"" + LONGEST + "\",\"" + LONGEST + "\"]"),
            "[\"" + LONGEST + "\",\"" + LONGEST + "\"]");
        Expect.equal("SUM of the greatest", resultOf(2, "[999998,1]"), "999999");
        Expect.equal("SUM beyond", resultOf(2, "[999999,1]"), null);
        Expect.equal("SUM of the least", resultOf(2, "[-999999,0]"), "-999999");
        Expect.equal("SUM of a word that is no number", resultOf(2, "[\"1000000\",-1]"), null);
        Expect.equal("SUM below", resultOf(2, "[-999999,-1]"), null);
        Expect.equal("SUM beyond on the way", resultOf(2, "[999999,999999,-999999]"), "999999");
    }

    private static void numbersOfWords() {
        for (String text : new String[] {"", "-", "01", "-0", "00", "1000000", "-1000000", "+1", " 1", "1 ", "--1",
            "1-", "a", "1a", "0x1", "null", "1,2", "1.0"}) {
            Expect.equal("SUM of " + text, resultOf(2, "\"" + text + "\""), null);
        }
        for (String text : new String[] {"0", "9", "-9", "10", "999999", "-999999", "100000"}) {
            Expect.equal("SUM of " + text, resultOf(2, "\"" + text + "\""), text);
        }
        Probe p = new Probe();
        p.x.tool(2);
        p.x.port(0, 0, 'a', 0);
        p.step(0, 0);
        p.input(0, "1");
        Expect.equal("a prefix is a word that is no number", p.runAll(), 3);
    }
}
