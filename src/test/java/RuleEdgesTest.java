import java.util.regex.Pattern;

/**
 * The sentences of the section 'Terms' on rules: for each the last draft that is a rule and the first
 * that is none, the last that gives a value and the first that fails.
 */
public final class RuleEdgesTest {
    private static final String LONGEST = "123456789012345678901234";
    private static final String EIGHT = "[1,2,3,4,5,6,7,8]";
    private static final String FAILS = "fails";

    /** Every $( begins a reference; any other character is itself. */
    private static final Pattern RULE =
        Pattern.compile("(?:\\$\\((?:inputs\\.[a-d]|self)(?:\\[[0-7]\\]|\\.length)*\\)|(?!\\$\\()[ -~])*");

    public static void main(String[] args) {
        emptyDraftIsOne();
        everyCharacterIsItself();
        letters();
        digits();
        anyNumberOfAccesses();
        everyShortDraft();
        everyDraftNearARule();
        nothingButOneReference();
        inputsOfPorts();
        inputsOfOtherSteps();
        elements();
        elementsOfOthers();
        lengths();
        lengthsOfOthers();
        texts();
        textsOfPlains();
        textsWithMarks();
        textsOfManyReferences();
        Expect.end();
    }

    private static boolean isRule(String draft) {
        Probe p = new Probe();
        p.step(p.tool(0));
        boolean answer = p.from(0, 0, draft);
        Expect.equal("from and when read alike: " + draft, p.when(0, draft), answer);
        return answer;
    }

    /** The word that a rule for port a gives with a as input 0 and b as input 1; "" when it gives NULL or []. */
    private static String worked(String rule, String a, String b) {
        Probe p = new Probe();
        p.step(p.tool(0, 0, 4), 0, 1);
        p.input(0, a);
        p.input(1, b);
        Expect.yes("a rule: " + rule, p.from(0, 0, rule));
        p.x.start(1);
        Expect.equal("it runs, or has failed: " + rule, p.x.status(), p.x.running() == 1 ? 1 : 3);
        return p.x.status() == 3 ? FAILS : p.command(0);
    }

    /** "(an empty draft is one; ..)" */
    private static void emptyDraftIsOne() {
        Expect.yes("empty", isRule(""));
        Expect.equal("it gives an empty text", worked("", "5", "5"), "<>");
        Probe p = new Probe();
        p.step(p.tool(1, 0), 0);
        p.when(0, "");
        p.runAll();
        Expect.equal("which is not NULL for WHEN", p.x.started(), 1);
    }

    /** "any other $, a " and a \ are themselves" */
    private static void everyCharacterIsItself() {
        for (char c = 32; c <= 126; c++) {
            boolean fails = c == '"' || c == '\\';
            Expect.yes("a rule of " + c, isRule("" + c));
            Expect.equal("it gives " + c, worked("" + c, "5", "5"), fails ? FAILS : "<" + c + ">");
            Expect.equal("$ and " + c + " are a rule", isRule("$" + c), c != '(');
            if (c != '(') {
                Expect.equal("it gives $ and " + c, worked("$" + c, "5", "5"), fails ? FAILS : "<$" + c + ">");
            }
        }
        for (String rule : new String[] {"$", "$$", "$$$", "( )", "$ (", "$)(", "($", "self", "inputs.a", "[0]", ".length",
            "(self)", "$[self]", "$self", "${self}", "$ (self)"}) {
            Expect.equal("itself: " + rule, worked(rule, "5", "5"), "<" + rule + ">");
        }
        Expect.equal("$ before a reference", worked("$$(self)", "5", "5"), "<$5>");
        Expect.equal("$ behind a reference", worked("$(self)$", "5", "5"), "<5$>");
        Expect.equal(") behind a reference", worked("$(self))", "5", "5"), "<5)>");
        Expect.equal("[0] behind a reference", worked("$(self)[0]", "5", "5"), "<5[0]>");
    }

    /** "inputs. and a letter a .. d, or self" */
    private static void letters() {
        for (char c = 32; c <= 126; c++) {
            Expect.equal("inputs." + c, isRule("$(inputs." + c + ")"), c >= 'a' && c <= 'd');
        }
        String[] none = {
            "$(inputs.)", "$(inputs)", "$(inputs", "$(inputs.", "$(inputs.a", "$(inputs.aa)", "$(input.a)", "$(Inputs.a)",
            "$(inputsa)", "$(inputs a)", "$( inputs.a)", "$(inputs.a )", "$(inputs. a)", "$(sel)", "$(selff)", "$(self",
            "$(Self)", "$(self )", "$( self)", "$()", "$( )", "$(", "$(self.a)", "$(a)", "$(inputs.self)", "$(selfinputs.a)",
        };
        for (String draft : none) {
            Expect.no("no rule: " + draft, isRule(draft));
            Expect.no("no rule: a" + draft, isRule("a" + draft));
            Expect.no("no rule: $(self)" + draft, isRule("$(self)" + draft));
            Expect.no("no rule: " + draft + "$(self)", isRule(draft + "$(self)"));
        }
    }

    /** "[ and a digit 0 .. 7 and ]" */
    private static void digits() {
        for (char c = 32; c <= 126; c++) {
            boolean fits = c >= '0' && c <= '7';
            Expect.equal("[" + c + "]", isRule("$(self[" + c + "])"), fits);
            Expect.equal("[" + c + "] of an input", isRule("$(inputs.a[" + c + "])"), fits);
            Expect.equal("[" + c + "] as the second", isRule("$(self[0][" + c + "])"), fits);
            Expect.equal("[" + c + "] behind .length", isRule("$(self.length[" + c + "])"), fits);
        }
        for (String access : new String[] {"[]", "[", "]", "[0", "0]", "[00]", "[0]]", "[[0]", "(0)", "[0,1]", "[-1]", "[10]",
            "[0] ", " [0]", "[ 0]", ".[0]", "0", ".0", ".length()", ".lengt", ".lengthh", "length", ". length", ".Length",
            ".length.", "..length", ".size", "."}) {
            Expect.no("no access: " + access, isRule("$(self" + access + ")"));
            Expect.no("no access: " + access, isRule("$(inputs.d" + access + ")"));
        }
    }

    /** "then any number of ACCESSES" */
    private static void anyNumberOfAccesses() {
        for (int count = 0; count <= 17; count++) {
            String rule = "$(self" + "[0]".repeat(count) + ")";
            Expect.yes("a rule: " + rule, isRule(rule));
            String[] due = {"<[[[5]]]>", "<[[5]]>", "<[5]>", "<5>"};
            Expect.equal("what it gives: " + rule, worked(rule, "[[[5]]]", "0"), count < 4 ? due[count] : FAILS);
        }
        for (int count = 0; count <= 7; count++) {
            String rule = "$(self" + ".length".repeat(count) + ")";
            Expect.yes("a rule: " + rule, isRule(rule));
            Expect.equal("what it gives: " + rule, worked(rule, "\"abc\"", "0"),
                count == 0 ? "<abc>" : count == 1 ? "<3>" : FAILS);
        }
        Expect.yes("both in turn", isRule("$(inputs.d[7].length[0].length[3][4].length)"));
    }

    /** Whether each draft is a rule is what the pattern says; an object takes so many as its calls suffice for. */
    private static final class Reader {
        private StepRunner x;
        private int calls = Counted.LIMIT;

        void read(String draft) {
            if (draft.length() > 60) {
                return;
            }
            if (calls + draft.length() + 1 > Counted.LIMIT) {
                x = new StepRunner();
                x.tool(0);
                x.step(0);
                calls = 2;
            }
            calls += draft.length() + 1;
            for (int i = 0; i < draft.length(); i++) {
                x.write(draft.charAt(i));
            }
            Expect.equal("from of " + draft, x.from(0, 0), RULE.matcher(draft).matches());
        }
    }

    private static void everyShortDraft() {
        Reader reader = new Reader();
        String[] pieces = {"$", "(", ")", "self", "inputs.", "a", "d", "e", "[", "]", "0", "7", "8", ".length"};
        for (String begin : new String[] {"", "$(", "$(self", "$(inputs.", "$(self[0", "$(inputs.b)$("}) {
            for (int length = 0; length <= 4; length++) {
                int count = (int) Math.round(Math.pow(pieces.length, length));
                for (int n = 0; n < count; n++) {
                    StringBuilder draft = new StringBuilder(begin);
                    for (int rest = n, i = 0; i < length; i++) {
                        draft.append(pieces[rest % pieces.length]);
                        rest /= pieces.length;
                    }
                    reader.read(draft.toString());
                }
            }
        }
    }

    private static void everyDraftNearARule() {
        String[] rules = {
            "$(self)", "a$(inputs.a[0])b", "$(self[7].length)$(inputs.d)", "$$(inputs.c.length[3])$(self)$",
            "$(inputs.a)$(inputs.b)$(inputs.c)$(inputs.d)$(self)xyz",
        };
        String characters = "$()[].0789abdes\" \\/";
        Reader reader = new Reader();
        for (String rule : rules) {
            for (int at = 0; at <= rule.length(); at++) {
                for (int c = 0; c < characters.length(); c++) {
                    String put = rule.substring(0, at) + characters.charAt(c);
                    reader.read(put + rule.substring(at));
                    reader.read(put + rule.substring(Math.min(at + 1, rule.length())));
                }
                reader.read(rule.substring(0, at) + rule.substring(Math.min(at + 1, rule.length())));
                reader.read(rule.substring(0, at));
                reader.read(rule.substring(at));
            }
        }
    }

    /** "A rule of nothing but one reference gives the value that this leads to" and not its text. */
    private static void nothingButOneReference() {
        String[][] rows = {
            {"null", ""}, {"[]", ""}, {"0", "<0>"}, {"\"\"", "<>"}, {"[1,\"a\"]", "<[1,\"a\"]>"}, {"\"a\"", "<a>"},
        };
        String[] texts = {"<null!>", "<[]!>", "<0!>", "<!>", FAILS, "<a!>"};
        for (int n = 0; n < rows.length; n++) {
            String[] row = rows[n];
            Expect.equal("the value of " + row[0], worked("$(self)", row[0], "5"), row[1]);
            Expect.equal("the value of an input", worked("$(inputs.b)", "5", row[0]), row[1]);
            Expect.equal("a text with " + row[0], worked("$(self)!", row[0], "5"), texts[n]);
            String before = texts[n].equals(FAILS) ? FAILS : "<!" + texts[n].substring(1).replace("!", "");
            Expect.equal("a text with it at the end", worked("!$(self)", row[0], "5"), before);
        }
        Expect.equal("two references are a text", worked("$(self)$(inputs.b)", "5", "\"\""), "<5>");
        Probe p = new Probe();
        p.step(p.tool(1, 4), 0);
        p.input(0, "0");
        p.preset(0, 0, "\"\"");
        p.when(0, "$(inputs.a)");
        p.runAll();
        Expect.equal("the number 0 skips", p.output(0), "null");
        p.when(0, "$(inputs.a)$(inputs.a)");
        p.runAll();
        Expect.equal("the text 00 does not", p.output(0), "0");
    }

    /** "inputs. and a letter that of the job's port with that letter (NULL when the tool has none)" */
    private static void inputsOfPorts() {
        for (int ports = 0; ports <= 4; ports++) {
            for (int port = 0; port < 4; port++) {
                Probe p = new Probe();
                p.tool(1, new int[ports]);
                p.step(0);
                for (int n = 0; n < 4; n++) {
                    p.preset(0, n, "" + (n + 1));
                }
                p.when(0, "$(inputs." + (char) ('a' + port) + ")");
                Expect.equal("it runs", p.runAll(), 2);
                Expect.equal("inputs." + (char) ('a' + port) + " with " + ports + " ports", p.x.started(),
                    port < ports ? 1 : 0);
            }
        }
        Probe p = new Probe();
        p.step(p.tool(0, 0), 0);
        p.input(0, "5");
        for (int port = 1; port < 4; port++) {
            p.preset(0, port, "9");
        }
        p.from(0, 0, "$(inputs.a)$(inputs.b)$(inputs.c)");
        p.x.start(1);
        Expect.equal("a port that is there and those that are not", p.command(0), "<5nullnull>");
    }

    /** The ports of another step's tool are not there for a step whose tool has none of that letter. */
    private static void inputsOfOtherSteps() {
        for (int ports = 0; ports < 4; ports++) {
            for (int port = ports; port < 4; port++) {
                Probe p = new Probe();
                p.tool(1, 0, 0, 0, 0);
                p.tool(1, new int[ports]);
                p.step(0, 0, 0, 0, 0);
                p.step(1);
                p.input(0, "5");
                p.when(1, "$(inputs." + (char) ('a' + port) + ")");
                Expect.equal("it runs", p.runAll(), 2);
                Expect.equal("NULL, behind a step with four ports", p.output(1), "null");
            }
        }
    }

    /** "[n] element n of a list .. it fails if that cannot be" */
    private static void elements() {
        for (int n = 0; n <= 7; n++) {
            Expect.equal("element " + n + " of eight", worked("$(self[" + n + "])", EIGHT, "0"), "<" + (n + 1) + ">");
            Expect.equal("element " + n + " of none", worked("$(self[" + n + "])", "[]", "0"), FAILS);
        }
        for (int count = 1; count < 8; count++) {
            String list = EIGHT.substring(0, 2 * count) + "]";
            Expect.equal("the last of " + list, worked("$(self[" + (count - 1) + "])", list, "0"), "<" + count + ">");
            Expect.equal("the next of " + list, worked("$(self[" + count + "])", list, "0"), FAILS);
            Expect.equal("the last in a text", worked("x$(self[" + (count - 1) + "])", list, "0"), "<x" + count + ">");
            Expect.equal("the next in a text", worked("x$(self[" + count + "])", list, "0"), FAILS);
        }
        Expect.equal("an element that is NULL", worked("$(self[0])", "[null]", "0"), "");
        Expect.equal("an element of an element", worked("$(self[1][0])", "[1,[2]]", "0"), "<2>");
        Expect.equal("the next of an element", worked("$(self[1][1])", "[1,[2]]", "0"), FAILS);
    }

    private static void elementsOfOthers() {
        for (String form : new String[] {"null", "0", "123", "\"\"", "\"abc\"", "[null]", "[0]", "[\"abc\"]"}) {
            String rule = form.startsWith("[") ? "$(self[0][0])" : "$(self[0])";
            Expect.equal(rule + " of " + form, worked(rule, form, "0"), FAILS);
            Expect.equal(rule + " of " + form + " in a text", worked(rule + "x", form, "0"), FAILS);
        }
        Expect.equal("[0] of a length", worked("$(self.length[0])", "[1]", "0"), FAILS);
    }

    /** ".length the number of elements of a list or of characters of a text" */
    private static void lengths() {
        Expect.equal("no elements", worked("$(self.length)", "[]", "0"), "<0>");
        for (int count = 1; count <= 8; count++) {
            String list = EIGHT.substring(0, 2 * count) + "]";
            Expect.equal("the length of " + list, worked("$(self.length)", list, "0"), "<" + count + ">");
        }
        for (int count = 0; count <= 24; count++) {
            String text = "\"" + LONGEST.substring(0, count) + "\"";
            Expect.equal("the length of " + text, worked("$(self.length)", text, "0"), "<" + count + ">");
            Expect.equal("in a text", worked("$(inputs.b.length)$(self)", "1", text), "<" + count + "1>");
        }
        Expect.equal("of an element that is a list", worked("$(self[0].length)", "[[1,2]]", "0"), "<2>");
        Expect.equal("of an element that is a text", worked("$(self[0].length)", "[\"abc\"]", "0"), "<3>");
        Expect.equal("lists count as one", worked("$(self.length)", "[[1,2],[3]]", "0"), "<2>");
        Probe p = new Probe();
        p.step(p.tool(2, 0), 0);
        p.input(0, "\"abc\"");
        p.from(0, 0, "$(self.length)");
        p.when(0, "$(inputs.b.length)");
        Expect.equal("a length of NULL fails in WHEN", p.runAll(), 3);
        p.when(0, "$(inputs.a)");
        p.runAll();
        Expect.equal("it is a number", p.output(0), "3");
        p.input(0, "\"\"");
        p.runAll();
        Expect.equal("0 as a number skips", p.output(0), "null");
    }

    private static void lengthsOfOthers() {
        for (String form : new String[] {"null", "0", "123", "-5"}) {
            Expect.equal(".length of " + form, worked("$(self.length)", form, "0"), FAILS);
            Expect.equal(".length of " + form + " in a text", worked("x$(self.length)", form, "0"), FAILS);
            Expect.equal(".length of the element " + form, worked("$(self[0].length)", "[" + form + "]", "0"), FAILS);
        }
        Expect.equal(".length of a length", worked("$(self.length.length)", "[1]", "0"), FAILS);
        Expect.equal(".length of a port that is not there", worked("$(inputs.d.length)", "[1]", "0"), FAILS);
    }

    /** "Any other rule gives the text ..; it fails if that is no value": 24 characters are the most. */
    private static void texts() {
        for (int length = 0; length <= 50; length++) {
            String rule = "r".repeat(length);
            Expect.equal("a text of " + length, worked(rule, "5", "5"), length <= 24 ? "<" + rule + ">" : FAILS);
        }
        for (int length = 0; length <= 40; length++) {
            String rule = "r".repeat(length) + "$(self)";
            boolean fits = length + 2 <= 24;
            Expect.equal("a text of " + length + " and 2", worked(rule, "55", "5"),
                !fits ? FAILS : "<" + "r".repeat(length) + "55>");
        }
    }

    /** ".. in which for each reference the plain of its value stands" */
    private static void textsOfPlains() {
        String[][] rows = {
            {"null", "null"}, {"0", "0"}, {"-999999", "-999999"}, {"\"\"", ""}, {"\"a b\"", "a b"}, {"[]", "[]"},
            {"[1,[null],-2]", "[1,[null],-2]"}, {"\"" + LONGEST + "\"", LONGEST},
            {"[123456,123456,123456,1]", "[123456,123456,123456,1]"},
        };
        for (String[] row : rows) {
            Expect.equal("the plain of " + row[0], worked("$(inputs.b)$(self)", row[0], "\"\""), "<" + row[1] + ">");
            boolean fits = row[1].length() < 24;
            Expect.equal("one more", worked("$(inputs.b)$(self)", row[0], "\"+\""), fits ? "<+" + row[1] + ">" : FAILS);
            Expect.equal("one more behind", worked("$(self)+", row[0], "0"), fits ? "<" + row[1] + "+>" : FAILS);
        }
        Expect.equal("a form of 25", worked("$(inputs.b)$(self)", "[123456,123456,123456,12]", "\"\""), FAILS);
        Expect.equal("which alone is a list", worked("$(self[3])", "[123456,123456,123456,12]", "\"\""), "<12>");
        Expect.equal("what is put in is not read again", worked("<$(self)>", "\"$(self)\"", "0"), "<<$(self)>>");
        Expect.equal("nor makes a reference", worked("$(self)(self)", "\"$\"", "0"), "<$(self)>");
    }

    /** "(when it has a " or \, too)" */
    private static void textsWithMarks() {
        for (String mark : new String[] {"\"", "\\"}) {
            for (String rule : new String[] {mark, "a" + mark, mark + "a", "$(self)" + mark, mark + "$(self)"}) {
                Expect.yes("a rule: " + rule, isRule(rule));
                Expect.equal("it fails: " + rule, worked(rule, "5", "5"), FAILS);
                Probe p = new Probe();
                p.step(p.tool(1));
                p.when(0, rule);
                Expect.equal("it fails in WHEN: " + rule, p.runAll(), 3);
                Expect.equal("its step too", p.x.state(0), 3);
            }
        }
        Expect.equal("a list with a text in a text", worked("x$(self)", "[\"a\"]", "0"), FAILS);
        Expect.equal("a list with an empty text in a text", worked("x$(self)", "[\"\"]", "0"), FAILS);
        Expect.equal("deeper", worked("x$(self)", "[[[\"\"]]]", "0"), FAILS);
        Expect.equal("a list without texts", worked("x$(self)", "[[[1]]]", "0"), "<x[[[1]]]>");
        Expect.equal("alone it is a value", worked("$(self)", "[\"a\"]", "0"), "<[\"a\"]>");
    }

    private static void textsOfManyReferences() {
        Expect.equal("eight", worked("$(self)".repeat(8), "\"abc\"", "0"), "<" + "abc".repeat(8) + ">");
        Expect.equal("eight and one character", worked("$(self)".repeat(8) + "x", "\"abc\"", "0"), FAILS);
        Expect.equal("four lengths and eight", worked("$(self.length)$(self.length)$(self)", "\"abc\"", "0"), "<33abc>");
        Expect.equal("one of them fails", worked("$(self)$(self[0])", "\"abc\"", "0"), FAILS);
        Expect.equal("the first of them fails", worked("$(self[0])$(self)", "\"abc\"", "0"), FAILS);
    }
}
