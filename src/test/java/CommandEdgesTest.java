/**
 * The sentences of the section 'Terms' on commands, results and outputs: for each the last that can
 * be and the first that fails.
 */
public final class CommandEdgesTest {
    private static final String LONGEST = "123456789012345678901234";
    private static final String EIGHT = "[1,2,3,4,5,6,7,8]";
    private static final String FAILS = "fails";
    private static final char NO_PREFIX = 0;
    private static final int ECHO = 0;
    private static final int COUNT = 1;
    private static final int SUM = 2;
    private static final int ITEMS = 3;

    public static void main(String[] args) {
        hiddenPorts();
        valuesThatAreNotThere();
        orderOfPlaces();
        styles();
        listsOfOne();
        eightWords();
        eightWordsOfSeveralPorts();
        ninthWordOfAnotherPort();
        wordsOf24();
        wordsOf24WithPrefix();
        wordsOf24WithCommas();
        wordsOf24OfElements();
        commandsFailInAnyJob();
        echo();
        echoOf24();
        count();
        sumOfNone();
        sumOfForms();
        sumLimits();
        items();
        itemsWithMarks();
        outputOfOneJob();
        outputOfEightJobs();
        outputOfNineJobs();
        outputsInLists();
        outputsThreeDeep();
        outputsOfEmptyPorts();
        outputsOfSkippedJobs();
        Expect.end();
    }

    private static String command(char prefix, int style, String form) {
        Probe p = new Probe();
        p.x.tool(COUNT);
        p.x.port(0, 0, prefix, style);
        p.step(0, 0);
        p.input(0, form);
        p.x.start(1);
        if (p.x.status() == 3) {
            Expect.equal("it failed while it was expanded", p.x.state(0) * 10 + p.x.started(), 30);
            return FAILS;
        }
        return p.command(0);
    }

    // ---- "for the ports with a STYLE below 4"

    private static void hiddenPorts() {
        Expect.equal("style 3 is in the command", command('k', 3, "5"), "<-k><5>");
        Expect.equal("style 4 is not", command('k', 4, "5"), "");
        Expect.equal("nor what would be too long", command('k', 4, "[\"" + LONGEST + "\"]"), "");
        Expect.equal("nor what would be too much", command('k', 4, EIGHT), "");
        Probe p = new Probe();
        p.step(p.tool(COUNT, 4, 0), 0, -1);
        p.input(0, "5");
        p.from(0, 1, "$(inputs.a)");
        p.x.start(1);
        Expect.equal("others see it", p.command(0), "<5>");
    }

    // ---- "whose value is not NULL and not an empty list"

    private static void valuesThatAreNotThere() {
        for (int style = 0; style <= 4; style++) {
            for (char prefix : new char[] {NO_PREFIX, 'k'}) {
                boolean shown = style < 4;
                String before = prefix == 0 ? "<" : style == 1 ? "<-k" : "<-k><";
                Expect.equal("NULL", command(prefix, style, "null"), "");
                Expect.equal("an empty list", command(prefix, style, "[]"), "");
                Expect.equal("an empty text", command(prefix, style, "\"\""), shown ? before + ">" : "");
                Expect.equal("0", command(prefix, style, "0"), shown ? before + "0>" : "");
                String nullAlone = style < 2 ? "[null]>" : "null>";
                Expect.equal("a list of NULL", command(prefix, style, "[null]"), shown ? before + nullAlone : "");
                String empty = style < 2 ? "[[]]>" : "[]>";
                Expect.equal("a list of an empty one", command(prefix, style, "[[]]"), shown ? before + empty : "");
                String text = style < 2 ? "[\"\"]>" : ">";
                Expect.equal("a list of an empty text", command(prefix, style, "[\"\"]"), shown ? before + text : "");
            }
        }
    }

    // ---- "those with lesser places first, of the same place in order"

    private static void orderOfPlaces() {
        int[][] rows = {
            {0, 0, 0, 0}, {-9, 9, -9, 9}, {9, 9, -9, -9}, {1, 0, 1, 0}, {3, 2, 1, 0}, {-1, 0, 1, 2}, {0, 0, -1, 0},
            {5, 5, 5, 4}, {-9, -8, -9, -8}, {2, -2, 2, -2}, {0, 1, 0, 1}, {9, 8, 9, -9},
        };
        for (int[] places : rows) {
            Probe p = new Probe();
            p.x.tool(COUNT);
            StringBuilder due = new StringBuilder();
            for (int n = 0; n < 4; n++) {
                p.x.port(0, places[n], (char) ('a' + n), 1);
            }
            for (int place = -9; place <= 9; place++) {
                for (int n = 0; n < 4; n++) {
                    due.append(places[n] == place ? "<-" + (char) ('a' + n) + "5>" : "");
                }
            }
            p.step(0, 0, 0, 0, 0);
            p.input(0, "5");
            p.x.start(1);
            Expect.equal("by places", p.command(0), due.toString());
        }
    }

    // ---- "STYLE 0: .. 1: .. 2: .. 3: .."

    private static void styles() {
        String list = "[1,\"a\",[2],null,\"\"]";
        String[] plain = {"<" + list + ">", "<" + list + ">", "<1><a><[2]><null><>", "<1,a,[2],null,>", ""};
        String[] named = {"<-k><" + list + ">", "<-k" + list + ">", "<-k><1><a><[2]><null><>", "<-k><1,a,[2],null,>", ""};
        for (int style = 0; style <= 4; style++) {
            Expect.equal("a list, style " + style, command(NO_PREFIX, style, list), plain[style]);
            Expect.equal("a list, prefix, style " + style, command('k', style, list), named[style]);
        }
        for (String form : new String[] {"5", "-5", "\"x y\"", "\"\""}) {
            String text = form.replace("\"", "");
            for (int style = 0; style < 4; style++) {
                Expect.equal("no list, style " + style, command(NO_PREFIX, style, form), "<" + text + ">");
                Expect.equal("no list, prefix, style " + style, command('k', style, form),
                    style == 1 ? "<-k" + text + ">" : "<-k><" + text + ">");
            }
        }
    }

    private static void listsOfOne() {
        String[] due = {"<[5]>", "<[5]>", "<5>", "<5>", ""};
        for (int style = 0; style <= 4; style++) {
            Expect.equal("a list of one, style " + style, command(NO_PREFIX, style, "[5]"), due[style]);
        }
    }

    // ---- "More than 8 words .. fail."

    private static void eightWords() {
        for (int count = 1; count <= 8; count++) {
            String list = EIGHT.substring(0, 2 * count) + "]";
            String words = "<" + list.substring(1, 2 * count).replace(",", "><") + ">";
            Expect.equal(count + " words", command(NO_PREFIX, 2, list), words);
            Expect.equal(count + " words and a prefix", command('k', 2, list), count < 8 ? "<-k>" + words : FAILS);
        }
    }

    private static void eightWordsOfSeveralPorts() {
        Probe p = new Probe();
        p.x.tool(COUNT);
        for (int n = 0; n < 4; n++) {
            p.x.port(0, 0, (char) ('a' + n), n < 3 ? 0 : 2);
        }
        p.step(0, 0, 0, 0, 1);
        p.input(0, "5");
        String[] forms = {"null", "[6]", "[6,7]"};
        String[] due = {"<-a><5><-b><5><-c><5>", "<-a><5><-b><5><-c><5><-d><6>", FAILS};
        for (int n = 0; n < 3; n++) {
            p.input(1, forms[n]);
            p.x.start(1);
            Expect.equal("six words and those of " + forms[n], p.x.status() == 3 ? FAILS : p.command(0), due[n]);
            p.x.finish(0);
        }
        p.input(1, "\"\"");
        p.x.start(1);
        Expect.equal("an empty word is one", p.x.job(0, 2), 8);
        Expect.equal("the last of them", p.x.word(0, 6, 1), (int) 'd');
    }

    /** The ninth word may be the prefix of a port as well as its value. */
    private static void ninthWordOfAnotherPort() {
        for (int words = 6; words <= 8; words++) {
            for (int style = 0; style < 4; style++) {
                for (char prefix : new char[] {NO_PREFIX, 'k'}) {
                    Probe p = new Probe();
                    p.x.tool(COUNT);
                    p.x.port(0, 0, NO_PREFIX, 2);
                    p.x.port(0, 0, prefix, style);
                    p.step(0, 0, 1);
                    p.input(0, EIGHT.substring(0, 2 * words) + "]");
                    p.x.start(1);
                    Expect.equal("without the other", p.x.job(0, 2), words);
                    p.x.finish(0);
                    p.input(1, "\"\"");
                    p.x.start(1);
                    int all = words + (prefix != 0 && style != 1 ? 2 : 1);
                    Expect.equal("with the other", p.x.job(0, 2), all <= 8 ? all : -1);
                    Expect.equal("it fails, or runs", p.x.status(), all <= 8 ? 1 : 3);
                }
            }
        }
    }

    // ---- "or one longer than 24, fail."

    private static void wordsOf24() {
        for (int length = 18; length <= 24; length++) {
            String text = LONGEST.substring(0, length);
            for (int style = 0; style < 4; style++) {
                Expect.equal("a text of " + length, command(NO_PREFIX, style, "\"" + text + "\""), "<" + text + ">");
            }
            String list = "[\"" + text + "\"]";
            Expect.equal("a form of " + (length + 4), command(NO_PREFIX, 0, list),
                length + 4 <= 24 ? "<" + list + ">" : FAILS);
            Expect.equal("a form of " + (length + 4) + ", style 1", command(NO_PREFIX, 1, list),
                length + 4 <= 24 ? "<" + list + ">" : FAILS);
        }
        Expect.equal("numbers of 24", command(NO_PREFIX, 0, "[123456,123456,123456,1]"), "<[123456,123456,123456,1]>");
        Expect.equal("numbers of 25", command(NO_PREFIX, 0, "[123456,123456,123456,12]"), FAILS);
        Expect.equal("numbers of 25 by -", command(NO_PREFIX, 0, "[-123456,123456,123456,1]"), FAILS);
        Expect.equal("lists of 24", command(NO_PREFIX, 0, "[[],[],[],[],[],[],[],1]"), "<[[],[],[],[],[],[],[],1]>");
        Expect.equal("lists of 25", command(NO_PREFIX, 0, "[[],[],[],[],[],[],[],[]]"), FAILS);
    }

    private static void wordsOf24WithPrefix() {
        for (int length = 20; length <= 24; length++) {
            String text = LONGEST.substring(0, length);
            Expect.equal("style 1 of " + length, command('k', 1, "\"" + text + "\""),
                length + 2 <= 24 ? "<-k" + text + ">" : FAILS);
            for (int style : new int[] {0, 2, 3}) {
                Expect.equal("style " + style + " of " + length, command('k', style, "\"" + text + "\""),
                    "<-k><" + text + ">");
            }
        }
        Expect.equal("style 1 of a form of 22", command('k', 1, "[123456,123456,123456]"), "<-k[123456,123456,123456]>");
        Expect.equal("style 1 of a form of 23", command('k', 1, "[-123456,123456,123456]"), FAILS);
    }

    private static void wordsOf24WithCommas() {
        for (int length = 18; length <= 24; length++) {
            String text = LONGEST.substring(0, length);
            Expect.equal("style 3 of " + length + " and 2", command('k', 3, "[\"" + text + "\",12]"),
                length + 3 <= 24 ? "<-k><" + text + ",12>" : FAILS);
            Expect.equal("style 3 of " + length + " and an empty text", command(NO_PREFIX, 3, "[\"" + text + "\",\"\"]"),
                length + 1 <= 24 ? "<" + text + ",>" : FAILS);
            Expect.equal("style 3 of an empty text and " + length, command(NO_PREFIX, 3, "[\"\",\"" + text + "\"]"),
                length + 1 <= 24 ? "<," + text + ">" : FAILS);
        }
        Expect.equal("style 3 of eight and 24", command(NO_PREFIX, 3, "[123,123,12,12,12,12,12,1]"),
            "<123,123,12,12,12,12,12,1>");
        Expect.equal("style 3 of eight and 25", command(NO_PREFIX, 3, "[123,123,123,12,12,12,12,1]"), FAILS);
    }

    private static void wordsOf24OfElements() {
        Expect.equal("style 2 of 24 and 24", command('k', 2, "[\"" + LONGEST + "\",\"" + LONGEST + "\"]"),
            "<-k><" + LONGEST + "><" + LONGEST + ">");
        String list = "[\"12345678901234567890\"]";
        Expect.equal("style 2 of an element's form of 24", command('k', 2, "[1," + list + "]"), "<-k><1><" + list + ">");
        Expect.equal("style 2 of an element's form of 25", command('k', 2, "[1,[\"123456789012345678901\"]]"), FAILS);
    }

    private static void commandsFailInAnyJob() {
        for (int bad = 0; bad < 3; bad++) {
            String[] items = {"\"a\"", "\"b\"", "\"c\""};
            items[bad] = "\"12345678901234567890123\"";
            Probe p = new Probe();
            p.x.tool(COUNT);
            p.x.port(0, 0, 'k', 1);
            p.step(0, 0);
            p.x.scatter(0, 1, 0);
            p.input(0, "[" + String.join(",", items) + "]");
            p.x.start(3);
            Expect.equal("the command of job " + bad + " fails", p.x.status() * 10 + p.x.state(0), 33);
            Expect.equal("no job is started", p.x.started(), 0);
        }
    }

    // ---- results

    /** The output of a step with one port of style 2. */
    private static String result(int kind, String form) {
        Probe p = new Probe();
        p.step(p.tool(kind, 2), 0);
        p.input(0, form);
        p.x.start(1);
        Expect.equal("the job runs", p.x.running(), 1);
        Expect.yes("and ends", p.x.finish(0));
        if (p.x.status() == 3) {
            Expect.equal("its step has failed", p.x.state(0), 3);
            Expect.equal("it has no output", p.x.output(0, 0), -1);
            return FAILS;
        }
        return p.output(0);
    }

    /** "0 ECHO: the text of its words with blanks between" */
    private static void echo() {
        Expect.equal("no words", result(ECHO, "null"), "\"\"");
        Expect.equal("an empty word", result(ECHO, "\"\""), "\"\"");
        Expect.equal("two empty words", result(ECHO, "[\"\",\"\"]"), "\" \"");
        Expect.equal("one", result(ECHO, "5"), "\"5\"");
        Expect.equal("two", result(ECHO, "[5,\"a b\"]"), "\"5 a b\"");
        Expect.equal("eight", result(ECHO, EIGHT), "\"1 2 3 4 5 6 7 8\"");
        Expect.equal("a word with \"", result(ECHO, "[[\"\"]]"), FAILS);
        Expect.equal("a word with brackets", result(ECHO, "[[1]]"), "\"[1]\"");
    }

    private static void echoOf24() {
        for (int length = 15; length <= 24; length++) {
            String text = LONGEST.substring(0, length);
            Expect.equal("one of " + length, result(ECHO, "\"" + text + "\""), "\"" + text + "\"");
            Expect.equal("one of " + length + " and 3", result(ECHO, "[\"" + text + "\",345]"),
                length + 4 <= 24 ? "\"" + text + " 345\"" : FAILS);
            Expect.equal("one of " + length + " and an empty one", result(ECHO, "[\"" + text + "\",\"\"]"),
                length + 1 <= 24 ? "\"" + text + " \"" : FAILS);
        }
    }

    /** "1 COUNT: how many words" */
    private static void count() {
        Expect.equal("no words", result(COUNT, "null"), "0");
        Expect.equal("an empty word", result(COUNT, "\"\""), "1");
        for (int words = 1; words <= 8; words++) {
            Expect.equal(words + " words", result(COUNT, EIGHT.substring(0, 2 * words) + "]"), "" + words);
        }
        Expect.equal("a word with \"", result(COUNT, "[[\"\"]]"), "1");
    }

    /** "2 SUM: the sum of its words (0 without any)" */
    private static void sumOfNone() {
        Expect.equal("no words, by NULL", result(SUM, "null"), "0");
        Expect.equal("no words, by an empty list", result(SUM, "[]"), "0");
        Probe p = new Probe();
        p.step(p.tool(SUM));
        p.runAll();
        Expect.equal("no words, by no ports", p.output(0), "0");
    }

    /** "all of which must be forms of numbers (else it fails)" */
    private static void sumOfForms() {
        for (String form : new String[] {"0", "1", "-1", "10", "999999", "-999999", "100000", "-100000"}) {
            Expect.equal("a number " + form, result(SUM, form), form);
            Expect.equal("a text " + form, result(SUM, "\"" + form + "\""), form);
            Expect.equal("beside 0", result(SUM, "[0,\"" + form + "\"]"), form);
        }
        for (String text : new String[] {"", "-", "00", "01", "-0", "-01", "000000", "1000000", "-1000000", "1234567", "+1",
            " 1", "1 ", "- 1", "--1", "1-", "1.0", "1,2", "a", "-a", "1a", "null", "[1]", "/", ":", "-/", "9:"}) {
            Expect.equal("a text " + text, result(SUM, "\"" + text + "\""), FAILS);
            Expect.equal("behind a number: " + text, result(SUM, "[1,\"" + text + "\"]"), FAILS);
            Expect.equal("before a number: " + text, result(SUM, "[\"" + text + "\",1]"), FAILS);
        }
        Expect.equal("seven digits, though the sum would be a value", result(SUM, "[\"1000000\",-1]"), FAILS);
        Expect.equal("seven digits below 0", result(SUM, "[\"-1000000\",1]"), FAILS);
        Expect.equal("a list as a word", result(SUM, "[[1]]"), FAILS);
        Expect.equal("NULL as a word", result(SUM, "[1,null]"), FAILS);
        Probe p = new Probe();
        p.x.tool(SUM);
        p.x.port(0, 0, 'k', 0);
        p.step(0, 0);
        p.input(0, "1");
        Expect.equal("a prefix as a word", p.runAll(), 3);
    }

    /** "(A result .. that is no value fails.)" */
    private static void sumLimits() {
        Expect.equal("999999", result(SUM, "[999998,1]"), "999999");
        Expect.equal("1000000", result(SUM, "[999999,1]"), FAILS);
        Expect.equal("-999999", result(SUM, "[-999998,-1]"), "-999999");
        Expect.equal("-1000000", result(SUM, "[-999999,-1]"), FAILS);
        Expect.equal("beyond it on the way", result(SUM, "[999999,999999,-999999]"), "999999");
        Expect.equal("below it on the way", result(SUM, "[-999999,-999999,999999]"), "-999999");
        String most = "[999999,999999,999999,999999,999999,999999,999999]";
        Expect.equal("seven of the greatest", result(SUM, most), FAILS);
        Expect.equal("seven of the least", result(SUM, most.replace("999999", "-999999")), FAILS);
        Expect.equal("a sum of 0", result(SUM, "[5,-5]"), "0");
        Expect.equal("a sum below 0", result(SUM, "[5,-15]"), "-10");
    }

    /** "3 ITEMS: the list of its words" */
    private static void items() {
        Expect.equal("no words", result(ITEMS, "null"), "[]");
        Expect.equal("an empty word", result(ITEMS, "\"\""), "[\"\"]");
        Expect.equal("one", result(ITEMS, "5"), "[\"5\"]");
        Expect.equal("eight", result(ITEMS, EIGHT), "[\"1\",\"2\",\"3\",\"4\",\"5\",\"6\",\"7\",\"8\"]");
        Expect.equal("words of 24", result(ITEMS, "[\"" + LONGEST + "\",\"" + LONGEST + "\"]"),
            "[\"" + LONGEST + "\",\"" + LONGEST + "\"]");
        Expect.equal("words are texts", result(ITEMS, "[null,-1,[1]]"), "[\"null\",\"-1\",\"[1]\"]");
    }

    private static void itemsWithMarks() {
        Expect.equal("a word with \"", result(ITEMS, "[[\"\"]]"), FAILS);
        Expect.equal("the last word with \"", result(ITEMS, "[1,2,[\"a\"]]"), FAILS);
        Expect.equal("a word without", result(ITEMS, "[1,2,[3]]"), "[\"1\",\"2\",\"[3]\"]");
    }

    // ---- "its output is the result of its one job, or, when scattered, the list of the results (METHOD 0 and 1)"

    private static void outputOfOneJob() {
        for (int method = 0; method <= 2; method++) {
            Probe p = new Probe();
            p.step(p.tool(COUNT, 0), 0);
            p.input(0, "[5]");
            p.x.scatter(0, 0, method);
            p.runAll();
            Expect.equal("of its one job", p.output(0), "1");
            p.x.scatter(0, 1, method);
            p.runAll();
            Expect.equal("the list of one, when scattered", p.output(0), "[1]");
        }
    }

    private static Probe scattered(int kind, int method, String... forms) {
        Probe p = new Probe();
        p.tool(kind, new int[forms.length]);
        p.step(0);
        for (int port = 0; port < forms.length; port++) {
            p.preset(0, port, forms[port]);
        }
        p.x.scatter(0, (1 << forms.length) - 1, method);
        return p;
    }

    private static String outputOf(int kind, int method, String... forms) {
        Probe p = scattered(kind, method, forms);
        return p.runAll() == 3 ? FAILS : p.output(0);
    }

    private static void outputOfEightJobs() {
        for (int method = 0; method <= 2; method++) {
            Expect.equal("eight of one port", outputOf(COUNT, method, EIGHT), "[1,1,1,1,1,1,1,1]");
            Expect.equal("none of one port", outputOf(COUNT, method, "[]"), "[]");
        }
        Expect.equal("METHOD 0, eight of two", outputOf(COUNT, 0, EIGHT, EIGHT), "[2,2,2,2,2,2,2,2]");
        Expect.equal("METHOD 1, eight of two", outputOf(COUNT, 1, "[1,2]", "[1,2,3,4]"), "[2,2,2,2,2,2,2,2]");
        Expect.equal("METHOD 1, eight of three", outputOf(COUNT, 1, "[1,2]", "[1,2]", "[1,2]"), "[3,3,3,3,3,3,3,3]");
        Expect.equal("METHOD 1, one of four", outputOf(COUNT, 1, "[1]", "[1]", "[1]", "[1]"), "[4]");
        Expect.equal("METHOD 0, none of two", outputOf(COUNT, 0, "[]", "[]"), "[]");
        Expect.equal("METHOD 1, none of two", outputOf(COUNT, 1, EIGHT, "[]"), "[]");
    }

    /** "(A result or an output that is no value fails.)": nine results are no list, though nine jobs can be. */
    private static void outputOfNineJobs() {
        int[][] rows = {{3, 3}, {2, 5}, {5, 2}, {3, 4}, {2, 8}, {4, 4}};
        for (int[] row : rows) {
            int jobs = row[0] * row[1];
            String first = EIGHT.substring(0, 2 * row[0]) + "]";
            String second = EIGHT.substring(0, 2 * row[1]) + "]";
            Probe p = scattered(COUNT, 1, first, second);
            p.x.start(3);
            for (int n = 0; n < jobs; n++) {
                Expect.equal("expanded until the last ends", p.x.state(0), 1);
                Expect.equal("goes on until the last ends", p.x.status(), 1);
                p.x.finish(0);
            }
            Expect.equal("METHOD 1, " + jobs + " results", p.x.state(0) * 10 + p.x.status(), 33);
            Expect.equal("all were started", p.x.started(), jobs);
            p.when(0, "$(self)");
            p.x.start(3);
            Expect.equal("as many that are skipped", p.x.state(0) * 10 + p.x.status(), 33);
        }
        Expect.equal("METHOD 2 has lists of them", outputOf(COUNT, 2, "[1,2,3]", "[1,2,3]"), "[[2,2,2],[2,2,2],[2,2,2]]");
        Expect.equal("METHOD 2 has lists of 16", outputOf(COUNT, 2, "[1,2]", EIGHT),
            "[[2,2,2,2,2,2,2,2],[2,2,2,2,2,2,2,2]]");
    }

    /** "for METHOD 2 with more than one port the list of lists (of lists ..): as the first port's elements, .." */
    private static void outputsInLists() {
        Expect.equal("one port", outputOf(ECHO, 2, "[1,2]"), "[\"1\",\"2\"]");
        Expect.equal("two", outputOf(ECHO, 2, "[1,2]", "[3,4,5]"), "[[\"1 3\",\"1 4\",\"1 5\"],[\"2 3\",\"2 4\",\"2 5\"]]");
        Expect.equal("one and three", outputOf(ECHO, 2, "[1]", "[3,4,5]"), "[[\"1 3\",\"1 4\",\"1 5\"]]");
        Expect.equal("three and one", outputOf(ECHO, 2, "[3,4,5]", "[1]"), "[[\"3 1\"],[\"4 1\"],[\"5 1\"]]");
        Expect.equal("three", outputOf(COUNT, 2, "[1,2]", "[3]", "[4,5]"), "[[[3,3]],[[3,3]]]");
        Expect.equal("16 of three", outputOf(COUNT, 2, "[1,2]", "[3,4]", "[4,5,6,7]"),
            "[[[3,3,3,3],[3,3,3,3]],[[3,3,3,3],[3,3,3,3]]]");
    }

    /** Outputs are values: three deep at most. */
    private static void outputsThreeDeep() {
        Expect.equal("lists of ITEMS", outputOf(ITEMS, 0, "[1,2]"), "[[\"1\"],[\"2\"]]");
        Expect.equal("lists of lists of ITEMS", outputOf(ITEMS, 2, "[1]", "[2]"), "[[[\"1\",\"2\"]]]");
        Expect.equal("lists of lists of lists of ITEMS", outputOf(ITEMS, 2, "[1]", "[2]", "[3]"), FAILS);
        Expect.equal("of empty ITEMS", outputOf(ITEMS, 2, "[null]", "[null]", "[null]"), FAILS);
        Expect.equal("three deep", outputOf(ECHO, 2, "[1]", "[2]", "[3]"), "[[[\"1 2 3\"]]]");
        Expect.equal("four deep", outputOf(ECHO, 2, "[1]", "[2]", "[3]", "[4]"), FAILS);
        Expect.equal("METHOD 1 is one deep", outputOf(ITEMS, 1, "[1]", "[2]", "[3]", "[4]"), "[[\"1\",\"2\",\"3\",\"4\"]]");
    }

    /** "(an empty list as soon as a port's is empty)" */
    private static void outputsOfEmptyPorts() {
        Expect.equal("the first of two", outputOf(ECHO, 2, "[]", "[1,2]"), "[]");
        Expect.equal("the second of two", outputOf(ECHO, 2, "[1,2]", "[]"), "[[],[]]");
        Expect.equal("both", outputOf(ECHO, 2, "[]", "[]"), "[]");
        Expect.equal("the first of three", outputOf(ECHO, 2, "[]", "[1,2]", "[3]"), "[]");
        Expect.equal("the second of three", outputOf(ECHO, 2, "[1,2]", "[]", "[3]"), "[[],[]]");
        Expect.equal("the third of three", outputOf(ECHO, 2, "[1,2]", "[3]", "[]"), "[[[]],[[]]]");
        Expect.equal("the first of four", outputOf(ECHO, 2, "[]", "[1]", "[1]", "[1]"), "[]");
        Expect.equal("the third of four", outputOf(ECHO, 2, "[1]", "[1]", "[]", "[1]"), "[[[]]]");
        Expect.equal("the fourth of four would be four deep", outputOf(ECHO, 2, "[1]", "[1]", "[1]", "[]"), FAILS);
        Expect.equal("of eight", outputOf(ECHO, 2, EIGHT, "[]"), "[[],[],[],[],[],[],[],[]]");
    }

    private static void outputsOfSkippedJobs() {
        for (int method = 0; method <= 2; method++) {
            Probe p = scattered(COUNT, method, "[1,2]", "[1,2]");
            p.when(0, "$(self)");
            Expect.equal("all skipped", p.runAll(), 2);
            String due = method == 0 ? "[null,null]" : method == 1 ? "[null,null,null,null]" : "[[null,null],[null,null]]";
            Expect.equal("NULL for each", p.output(0), due);
        }
        Probe p = scattered(COUNT, 2, "[1]", "[1]", "[1]", "[1]");
        p.when(0, "$(self)");
        Expect.equal("four deep, skipped", p.runAll(), 3);
        Expect.equal("its state", p.x.state(0), 3);
    }
}
