import java.util.regex.Pattern;

/**
 * The sentences of the section 'Terms' that say what a value is, and when a draft is one: for each
 * the last that is a value and the first that is none.
 */
public final class ValueEdgesTest {
    private static final String LONGEST = "123456789012345678901234";

    /** What is just a form, said by a pattern: a list in a list in a list, and nothing deeper. */
    private static final Pattern FORM = Pattern.compile(formDeep(3));

    private static String formDeep(int depth) {
        String flat = "null|0|-?[1-9][0-9]{0,5}|\"[ !#-\\[\\]-~]{0,24}\"";
        if (depth == 0) {
            return "(?:" + flat + ")";
        }
        String item = formDeep(depth - 1);
        return "(?:" + flat + "|\\[(?:" + item + "(?:," + item + "){0,7})?\\])";
    }

    public static void main(String[] args) {
        numbers();
        digitsOfNumbers();
        sixDigits();
        needlessZeros();
        textLengths();
        textCharacters();
        listLengths();
        listDepths();
        nullAlone();
        emptyDraft();
        justAForm();
        forms();
        plains();
        everyShortDraft();
        everyDraftNearAForm();
        Expect.end();
    }

    private static boolean isValue(String draft) {
        return new Probe().input(0, draft);
    }

    private static void values(String what, String... drafts) {
        for (String draft : drafts) {
            Expect.yes(what + ", a value: " + draft, isValue(draft));
            Probe p = new Probe();
            p.step(p.tool(0));
            Expect.yes(what + ", a preset: " + draft, p.preset(0, 0, draft));
        }
    }

    private static void none(String what, String... drafts) {
        for (String draft : drafts) {
            Expect.no(what + ", no value: " + draft, isValue(draft));
            Probe p = new Probe();
            p.step(p.tool(0));
            Expect.no(what + ", no preset: " + draft, p.preset(0, 0, draft));
        }
    }

    private static String row(String item, int count) {
        return "[" + item + ("," + item).repeat(Math.max(0, count - 1)) + "]";
    }

    /** "a NUMBER -999999 .. 999999" */
    private static void numbers() {
        values("numbers", "999999", "999998", "-999999", "-999998", "1", "0", "-1");
        none("numbers", "1000000", "-1000000", "1000001", "9999999", "-9999999", "2147483647", "2147483648",
            "-2147483648", "4294967297", "18446744073709551617");
    }

    /** ".. the digits of a number, with - before them when it is below 0", for each number of digits. */
    private static void digitsOfNumbers() {
        for (int power = 1; power <= 100000; power *= 10) {
            for (int digit = 1; digit <= 9; digit++) {
                for (int near = -1; near <= 1; near++) {
                    formStays(digit * power + near);
                    formStays(-(digit * power + near));
                }
            }
        }
        formStays(999999);
        formStays(-999999);
    }

    private static void formStays(int number) {
        Probe p = new Probe();
        p.step(p.tool(2, 0), 0);
        Expect.yes("input of " + number, p.input(0, "" + number));
        p.x.start(1);
        Expect.equal("the command of " + number, p.command(0), "<" + number + ">");
        p.x.finish(0);
        Expect.equal("the output of " + number, p.output(0), "" + number);
    }

    /** "at most 6 digits" */
    private static void sixDigits() {
        for (int digits = 1; digits <= 40; digits++) {
            String number = "1".repeat(digits);
            if (digits <= 6) {
                values("digits", number, "-" + number, "[" + number + "]", "[-" + number + "]");
            } else {
                none("digits", number, "-" + number, "[" + number + "]", "[-" + number + "]");
            }
        }
        none("digits", "-", "--1", "1-", "[-]", "+1", "1e5", "1.5", "1_000");
    }

    /** "numbers without needless 0 before them and no -0" */
    private static void needlessZeros() {
        values("zeros", "0", "10", "-10", "100000", "-100000", "[0,10]");
        none("zeros", "00", "01", "-0", "-00", "-01", "000000", "010", "[00]", "[01]", "[-0]", "[1,-0]", "012345");
    }

    /** "a TEXT of at most 24 characters" */
    private static void textLengths() {
        for (int length = 0; length <= 40; length++) {
            String text = '"' + "t".repeat(length) + '"';
            if (length <= 24) {
                values("text", text, "[" + text + "]", "[[[" + text + "]]]");
            } else {
                none("text", text, "[" + text + "]", "[[[" + text + "]]]");
            }
        }
    }

    /** "(32 .. 126, but no " and no \)" */
    private static void textCharacters() {
        for (char c = 32; c <= 126; c++) {
            String text = "\"" + c + "\"";
            String inside = "[\"a" + c + "b\"]";
            if (c == '"' || c == '\\') {
                none("character " + (int) c, text, inside, text + "\"");
            } else {
                values("character " + (int) c, text, inside);
                Probe p = new Probe();
                p.step(p.tool(0, 0), 0);
                p.input(0, text);
                p.x.start(1);
                Expect.equal("character " + (int) c + " stays itself", p.x.word(0, 0, 0), (int) c);
                p.x.finish(0);
                Expect.equal("character " + (int) c + " stays itself in the form", p.output(0), text);
            }
        }
        none("text", "\"\\\"\"", "\"\\\\\"", "\"\\n\"", "\"", "\"a", "a\"", "\"a\"\"", "\"\"\"", "'a'");
    }

    /** "a LIST of at most 8 values" */
    private static void listLengths() {
        for (int count = 1; count <= 12; count++) {
            String list = row("1", count);
            if (count <= 8) {
                values("list", list, "[" + list + "]", "[[" + list + "]]", row("[]", count), row("\"\"", count));
            } else {
                none("list", list, "[" + list + "]", "[[" + list + "]]", row("[]", count), row("\"\"", count));
            }
        }
        values("list", "[]", "[[]]", "[[],[]]", "[null]", "[[[1,1,1,1,1,1,1,1]],1,1,1,1,1,1,1]");
        none("list", "[1,1,1,1,1,1,1,1,[1]]", "[[1,1,1,1,1,1,1,1,1]]", "[1,1,1,1,1,1,1,1,]");
    }

    /** "lists may lie in lists, three deep at most" */
    private static void listDepths() {
        for (int depth = 1; depth <= 29; depth++) {
            String empty = "[".repeat(depth) + "]".repeat(depth);
            String full = "[".repeat(depth) + "1" + "]".repeat(depth);
            if (depth <= 3) {
                values("depth", empty, full);
            } else {
                none("depth", empty, full);
            }
        }
        values("depth", "[1,[2,[3]]]", "[[[1]],2,[[3]]]", "[[],[[]],[]]", "[1,[1,[]],1]");
        none("depth", "[1,[2,[3,[]]]]", "[[],[[[]]]]", "[[[]],[[]],[[[]]]]", "[1,[1,[1,[1]]]]");
    }

    /** "A VALUE is NULL": its form is null, in these letters. */
    private static void nullAlone() {
        values("null", "null", "[null]", "[null,null]");
        none("null", "n", "nu", "nul", "nulll", "Null", "NULL", "nullnull", " null", "null ", "[nul]", "[nulll]",
            "ull", "nil", "[n]", "[null", "null]");
    }

    /** "(.. an empty draft is none)" */
    private static void emptyDraft() {
        Expect.no("an empty draft is no input", new Probe().x.input(0));
        Probe p = new Probe();
        p.step(p.tool(0));
        Expect.no("an empty draft is no preset", p.x.preset(0, 0));
    }

    /** "It is read as a value when it is just a form": nothing before it, in it or behind it. */
    private static void justAForm() {
        for (String form : new String[] {"1", "null", "\"a\"", "[]", "[1,2]"}) {
            values("just a form", form);
            for (String more : new String[] {" ", ",", "]", "[", "\"", "0 ", ")", "$", "\\", "--"}) {
                none("just a form", form + more, more + form);
            }
        }
        none("just a form", "1 2", "1,2", "[1, 2]", "[1 ,2]", "[ 1]", "[1 ]", "[,]", "[1,]", "[,1]", "[1,,2]", "[1][2]",
            "[1]1", "1[1]", "[", "]", "[1", "1]", "[[1]", "[1]]", "][", "[1,2", "[1;2]", "{}", "(1)", "true", "a");
    }

    /** "The FORM of a value: null; the digits of a number, with - ..; a text between two "; the forms of a list's .." */
    private static void forms() {
        String[] forms = {
            "[null]", "[0]", "[-1]", "[999999]", "[-999999]", "[100000]", "[10]", "[\"\"]", "[\" \"]", "[\"[],\"]",
            "[1,null,\"a\",[]]", "[[]]", "[[],[]]", "[[[]]]", "[[[],[]],[]]", "[[[1,2],[3]],[[4]]]",
            "[1,2,3,4,5,6,7,8]",
        };
        for (String form : forms) {
            Probe p = new Probe();
            p.step(p.tool(0, 0), 0);
            p.input(0, form);
            p.x.start(1);
            Expect.equal("the form of " + form, p.command(0), "<" + form + ">");
        }
    }

    /** "The PLAIN of a value is a text itself, for others the form." */
    private static void plains() {
        String[][] rows = {
            {"\"a\"", "<a>"}, {"\"\"", "<>"}, {"\"" + LONGEST + "\"", "<" + LONGEST + ">"}, {"-5", "<-5>"}, {"0", "<0>"},
            {"[\"a\"]", "<[\"a\"]>"}, {"\"null\"", "<null>"}, {"\"[1]\"", "<[1]>"},
        };
        for (String[] row : rows) {
            Probe p = new Probe();
            p.step(p.tool(0, 0), 0);
            p.input(0, row[0]);
            p.x.start(1);
            Expect.equal("the plain of " + row[0], p.command(0), row[1]);
        }
        Probe p = new Probe();
        p.step(p.tool(0, 0));
        p.from(0, 0, "<$(self)>");
        p.x.start(1);
        Expect.equal("the plain of NULL", p.command(0), "<<null>>");
    }

    /** Whether each draft is a value is what the pattern says; an object takes so many as its calls suffice for. */
    private static final class Reader {
        private StepRunner x = new StepRunner();
        private int calls = 0;

        void read(String draft) {
            if (calls + draft.length() + 1 > Counted.LIMIT) {
                x = new StepRunner();
                calls = 0;
            }
            calls += draft.length() + 1;
            for (int i = 0; i < draft.length(); i++) {
                x.write(draft.charAt(i));
            }
            Expect.equal("input of " + draft, x.input(0), FORM.matcher(draft).matches());
        }
    }

    private static void everyShortDraft() {
        Reader reader = new Reader();
        String[] pieces = {"[", "]", ",", "\"", "-", "0", "1", "null", "\\", " "};
        for (int length = 0; length <= 5; length++) {
            int count = (int) Math.round(Math.pow(pieces.length, length));
            for (int n = 0; n < count; n++) {
                StringBuilder draft = new StringBuilder();
                for (int rest = n, i = 0; i < length; i++) {
                    draft.append(pieces[rest % pieces.length]);
                    rest /= pieces.length;
                }
                reader.read(draft.toString());
            }
        }
    }

    /** Forms at their edges with one character put in, taken out or changed. */
    private static void everyDraftNearAForm() {
        String[] forms = {
            "999999", "-999999", "null", "\"" + LONGEST + "\"", "[1,2,3,4,5,6,7,8]", "[[[]]]", "[[[1],2],\"]\",null]",
            "[[],[[],[]],[-10,\"\"]]", "[\"a b\",[\",\"]]", "[[[1,2,3,4,5,6,7,8]],[],0,-1,2,3,4,5]",
        };
        String characters = "[],\"-019nul \\~";
        Reader reader = new Reader();
        for (String form : forms) {
            for (int at = 0; at <= form.length(); at++) {
                for (int c = 0; c < characters.length(); c++) {
                    String put = form.substring(0, at) + characters.charAt(c);
                    reader.read(put + form.substring(at));
                    reader.read(put + form.substring(Math.min(at + 1, form.length())));
                }
                reader.read(form.substring(0, at) + form.substring(Math.min(at + 1, form.length())));
                reader.read(form.substring(0, at));
                reader.read(form.substring(at));
            }
        }
    }
}
