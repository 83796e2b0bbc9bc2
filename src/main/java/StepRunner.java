/**
 * A runner for workflows: steps run simulated tools on values that come from inputs or other steps,
 * once or for each element of lists, and a few workers share the jobs that come of this.
 *
 * <p>No call throws. Rows are made once and used again, because a run of calls never gives room back.
 */
public final class StepRunner {
    private static final int NONE = -1;

    private static final int DRAFT_LIMIT = 60;
    private static final int INPUT_LIMIT = 3;
    private static final int TOOL_LIMIT = 4;
    private static final int PORT_LIMIT = 4;
    private static final int STEP_LIMIT = 6;
    private static final int SOURCE_LIMIT = 3;
    private static final int WORKER_LIMIT = 3;
    private static final int JOB_LIMIT = 16;
    private static final int WORD_LIMIT = 8;
    private static final int WORD_LENGTH_LIMIT = 24;
    private static final int PLACE_LIMIT = 9;

    private static final int TEXT_LIMIT = 24;
    private static final int LIST_LIMIT = 8;
    private static final int DEPTH_LIMIT = 3;
    private static final int DIGIT_LIMIT = 6;
    private static final int NUMBER_LIMIT = 999999;

    private static final int FIRST_STEP_SOURCE = 10;
    private static final int ALL_PORTS = 15;

    private static final int ECHO = 0;
    private static final int COUNT = 1;
    private static final int SUM = 2;
    private static final int ITEMS = 3;

    private static final int STYLE_JOINED = 1;
    private static final int STYLE_WORD_EACH = 2;
    private static final int STYLE_HIDDEN = 4;

    private static final int MERGE_FLAT = 2;
    private static final int PICK_ONLY = 2;
    private static final int PICK_ALL = 3;
    private static final int METHOD_SIDE_BY_SIDE = 0;
    private static final int METHOD_NESTED = 2;

    private static final int WAITING = 0;
    private static final int EXPANDED = 1;
    private static final int DONE = 2;
    private static final int BROKEN = 3;

    private static final int NEVER_RUN = 0;
    private static final int GOING_ON = 1;
    private static final int SUCCESS = 2;
    private static final int FAILED = 3;

    private final Draft draft;
    private final Value[] inputs;
    private final Tool[] tools;
    private int toolCount;
    private final Step[] steps;
    private int stepCount;
    private final Run run;

    public StepRunner() {
        draft = new Draft();
        inputs = new Value[INPUT_LIMIT];
        for (int k = 0; k < INPUT_LIMIT; k++) {
            inputs[k] = Value.nothing();
        }
        tools = new Tool[TOOL_LIMIT];
        steps = new Step[STEP_LIMIT];
        run = new Run();
    }

    public boolean write(char c) {
        return draft.add(c);
    }

    public int tool(int kind) {
        if (run.goesOn() || toolCount >= TOOL_LIMIT || kind < ECHO || kind > ITEMS) {
            return NONE;
        }
        tools[toolCount] = new Tool(kind);
        toolCount++;
        return toolCount - 1;
    }

    public int port(int tool, int place, char prefix, int style) {
        if (run.goesOn() || tool < 0 || tool >= toolCount) {
            return NONE;
        }
        boolean placeFits = place >= -PLACE_LIMIT && place <= PLACE_LIMIT;
        boolean prefixFits = prefix == 0 || prefix >= 'a' && prefix <= 'z';
        boolean styleFits = style >= 0 && style <= STYLE_HIDDEN;
        Tool owner = tools[tool];
        if (owner == null || !placeFits || !prefixFits || !styleFits) {
            return NONE;
        }
        return owner.addPort(place, prefix, style);
    }

    public int step(int tool) {
        if (run.goesOn() || stepCount >= STEP_LIMIT || tool < 0 || tool >= toolCount) {
            return NONE;
        }
        Tool used = tools[tool];
        if (used == null) {
            return NONE;
        }
        steps[stepCount] = new Step(used);
        stepCount++;
        return stepCount - 1;
    }

    public boolean link(int step, int port, int source) {
        Step owner = stepToBuild(step);
        boolean isInput = source >= 0 && source < INPUT_LIMIT;
        boolean isStep = source >= FIRST_STEP_SOURCE && source < FIRST_STEP_SOURCE + STEP_LIMIT;
        return owner != null && isPort(port) && (isInput || isStep) && owner.addSource(port, source);
    }

    public boolean gather(int step, int port, int merge, int pick) {
        Step owner = stepToBuild(step);
        boolean mergeFits = merge >= 0 && merge <= MERGE_FLAT;
        boolean pickFits = pick >= 0 && pick <= PICK_ALL;
        if (owner == null || !isPort(port) || !mergeFits || !pickFits) {
            return false;
        }
        owner.merges[port] = merge;
        owner.picks[port] = pick;
        return true;
    }

    public boolean preset(int step, int port) {
        Value value = draft.takeValue();
        Step owner = stepToBuild(step);
        if (value == null || owner == null || !isPort(port)) {
            return false;
        }
        owner.presets[port] = value;
        return true;
    }

    public boolean from(int step, int port) {
        Rule rule = draft.takeRule();
        Step owner = stepToBuild(step);
        if (rule == null || owner == null || !isPort(port)) {
            return false;
        }
        owner.rules[port] = rule;
        return true;
    }

    public boolean when(int step) {
        Rule rule = draft.takeRule();
        Step owner = stepToBuild(step);
        if (rule == null || owner == null) {
            return false;
        }
        owner.condition = rule;
        return true;
    }

    public boolean scatter(int step, int ports, int method) {
        Step owner = stepToBuild(step);
        boolean methodFits = method >= METHOD_SIDE_BY_SIDE && method <= METHOD_NESTED;
        if (owner == null || ports < 0 || ports > ALL_PORTS || !methodFits) {
            return false;
        }
        owner.scattered = ports;
        owner.method = method;
        return true;
    }

    public boolean input(int k) {
        Value value = draft.takeValue();
        if (value == null || run.goesOn() || k < 0 || k >= INPUT_LIMIT) {
            return false;
        }
        inputs[k] = value;
        return true;
    }

    public int start(int workers) {
        if (run.goesOn() || workers < 1 || workers > WORKER_LIMIT) {
            return NONE;
        }
        if (missesSteps()) {
            return 1;
        }
        if (goesRound()) {
            return 2;
        }
        run.begin(steps, stepCount, inputs, workers);
        run.advance();
        return 0;
    }

    public boolean finish(int k) {
        if (!run.endJob(k)) {
            return false;
        }
        run.advance();
        return true;
    }

    public int status() {
        return run.status;
    }

    public int running() {
        return run.activeCount;
    }

    public int started() {
        return run.startedCount;
    }

    public int job(int k, int w) {
        Job job = run.activeJob(k);
        if (job == null) {
            return NONE;
        }
        switch (w) {
            case 0:
                return job.stepNumber;
            case 1:
                return job.number;
            case 2:
                return job.wordCount;
            default:
                return NONE;
        }
    }

    public int word(int k, int j, int i) {
        Job job = run.activeJob(k);
        return job == null ? NONE : job.letterAt(j, i);
    }

    public int state(int step) {
        if (run.status == NEVER_RUN || step < 0 || step >= stepCount) {
            return NONE;
        }
        return run.phaseOf(step);
    }

    public int output(int step, int i) {
        Value value = run.outcomeOf(step);
        return value == null ? NONE : value.formAt(i);
    }

    private Step stepToBuild(int step) {
        return run.goesOn() || step < 0 || step >= stepCount ? null : steps[step];
    }

    private boolean missesSteps() {
        int present = (1 << stepCount) - 1;
        for (int s = 0; s < stepCount; s++) {
            Step step = steps[s];
            if (step != null && (step.neededSteps() & ~present) != 0) {
                return true;
            }
        }
        return false;
    }

    /** Steps that wait only for free ones become free; what is never freed waits for itself. */
    private boolean goesRound() {
        int free = 0;
        for (int round = 0; round < stepCount; round++) {
            for (int s = 0; s < stepCount; s++) {
                Step step = steps[s];
                if (step != null && (step.neededSteps() & ~free) == 0) {
                    free |= 1 << s;
                }
            }
        }
        return free != (1 << stepCount) - 1;
    }

    private static boolean isPort(int port) {
        return port >= 0 && port < PORT_LIMIT;
    }

    private static boolean hasBit(int bits, int n) {
        return (bits >> n & 1) == 1;
    }

    private static boolean isPrintable(char c) {
        return c >= ' ' && c <= '~';
    }

    private static boolean isDigit(char c) {
        return c >= '0' && c <= '9';
    }

    /** A value. What is no list keeps its form in letters, so that all kinds are read alike. */
    private static final class Value {
        static final int NOTHING = 0;
        static final int NUMBER = 1;
        static final int TEXT = 2;
        static final int LIST = 3;

        static final int NO_NUMBER = -NUMBER_LIMIT - 1;
        static final String NOTHING_FORM = "null";
        static final int NUMBER_ROOM = DIGIT_LIMIT + 1;

        private final char[] letters;
        private final Value[] items;
        private int kind;
        private int number;
        private int size;
        private int depth;
        private int formLength;

        private Value(int letterRoom, int itemRoom) {
            letters = letterRoom > 0 ? new char[letterRoom] : null;
            items = itemRoom > 0 ? new Value[itemRoom] : null;
        }

        static Value nothing() {
            Value value = new Value(NOTHING_FORM.length(), 0);
            value.becomeNothing();
            return value;
        }

        static Value ofNumber(int number) {
            Value value = new Value(NUMBER_ROOM, 0);
            return value.becomeNumber(number) ? value : null;
        }

        static Value emptyText(int room) {
            Value value = new Value(Math.max(0, Math.min(room, TEXT_LIMIT)) + 2, 0);
            value.becomeText();
            return value;
        }

        static Value emptyList(int room) {
            Value value = new Value(0, Math.max(0, Math.min(room, LIST_LIMIT)));
            value.becomeList();
            return value;
        }

        private void becomeNothing() {
            kind = NOTHING;
            size = 0;
            depth = 0;
            formLength = NOTHING_FORM.length();
            for (int i = 0; letters != null && i < formLength && i < letters.length; i++) {
                letters[i] = NOTHING_FORM.charAt(i);
            }
        }

        boolean becomeNumber(int n) {
            if (letters == null || letters.length < NUMBER_ROOM || n < -NUMBER_LIMIT || n > NUMBER_LIMIT) {
                return false;
            }
            kind = NUMBER;
            number = n;
            size = 0;
            depth = 0;
            int rest = n < 0 ? -n : n;
            int digits = 1;
            for (int bound = 10; digits < DIGIT_LIMIT && rest >= bound; bound *= 10) {
                digits++;
            }
            int first = n < 0 ? 1 : 0;
            formLength = first + digits;
            letters[0] = '-';
            for (int i = formLength - 1; i >= first; i--) {
                letters[i] = (char) ('0' + rest % 10);
                rest /= 10;
            }
            return true;
        }

        boolean becomeText() {
            if (letters == null || letters.length < 2) {
                return false;
            }
            kind = TEXT;
            size = 0;
            depth = 0;
            formLength = 2;
            letters[0] = '"';
            letters[1] = '"';
            return true;
        }

        void becomeList() {
            kind = LIST;
            size = 0;
            depth = 1;
            formLength = 2;
        }

        /** False when the text would be no value with this letter. */
        boolean addLetter(char c) {
            if (kind != TEXT || letters == null || size >= TEXT_LIMIT || formLength >= letters.length) {
                return false;
            }
            if (formLength < 2 || c < ' ' || c > '~' || c == '"' || c == '\\') {
                return false;
            }
            letters[formLength - 1] = c;
            letters[formLength] = '"';
            formLength++;
            size++;
            return true;
        }

        boolean addPlain(Value value) {
            int begin = value.plainBegin();
            int end = value.plainEnd();
            if (end - begin > TEXT_LIMIT) {
                return false;
            }
            for (int i = begin; i < end; i++) {
                if (!addLetter((char) value.formAt(i))) {
                    return false;
                }
            }
            return true;
        }

        /** False when the list would be no value with this item. */
        boolean addItem(Value item) {
            if (kind != LIST || items == null || size >= items.length || size >= LIST_LIMIT) {
                return false;
            }
            if (item == null || item.depth >= DEPTH_LIMIT) {
                return false;
            }
            items[size] = item;
            formLength += item.formLength + (size > 0 ? 1 : 0);
            size++;
            depth = item.depth >= depth ? item.depth + 1 : depth;
            return true;
        }

        boolean addItemsOf(Value list) {
            for (int i = 0; i < list.size; i++) {
                if (!addItem(list.itemAt(i))) {
                    return false;
                }
            }
            return true;
        }

        boolean isNothing() {
            return kind == NOTHING;
        }

        boolean isList() {
            return kind == LIST;
        }

        /** Whether a job is skipped when its condition gives this. */
        boolean isOff() {
            return kind == NOTHING || kind == NUMBER && number == 0;
        }

        /** Null when this is no list, or has no such element. */
        Value itemAt(int i) {
            return kind != LIST || items == null || i < 0 || i >= size || i >= items.length ? null : items[i];
        }

        boolean hasLength() {
            return kind == LIST || kind == TEXT;
        }

        /** The plain is a part of the form: all of it, or what stands between a text's marks. */
        int plainBegin() {
            return kind == TEXT ? 1 : 0;
        }

        int plainEnd() {
            return kind == TEXT ? formLength - 1 : formLength;
        }

        /** The code of character i of the form; -1 when there is none. */
        int formAt(int i) {
            Value part = this;
            int at = i;
            for (int level = 0; level <= DEPTH_LIMIT; level++) {
                if (at < 0 || at >= part.formLength) {
                    return NONE;
                }
                if (part.kind != LIST) {
                    return part.letters == null || at >= part.letters.length ? NONE : part.letters[at];
                }
                if (at == 0 || at == part.formLength - 1) {
                    return at == 0 ? '[' : ']';
                }
                at--;
                Value item = null;
                for (int n = 0; part.items != null && n < part.size && n < part.items.length; n++) {
                    item = part.items[n];
                    if (item == null || at <= item.formLength) {
                        break;
                    }
                    at -= item.formLength + 1;
                }
                if (item == null || at == item.formLength) {
                    return item == null ? NONE : ',';
                }
                part = item;
            }
            return NONE;
        }

        /** The number of which the letters begin .. end - 1 are the form, or NO_NUMBER. */
        static int numberIn(char[] letters, int begin, int end) {
            if (begin < 0 || begin >= end || end > letters.length) {
                return NO_NUMBER;
            }
            boolean below = letters[begin] == '-';
            int first = below ? begin + 1 : begin;
            int digits = end - first;
            if (digits < 1 || digits > DIGIT_LIMIT) {
                return NO_NUMBER;
            }
            if (letters[first] == '0' && (below || digits > 1)) {
                return NO_NUMBER;
            }
            int amount = 0;
            for (int i = first; i < end; i++) {
                if (!isDigit(letters[i])) {
                    return NO_NUMBER;
                }
                amount = amount * 10 + (letters[i] - '0');
            }
            return below ? -amount : amount;
        }
    }

    /** The characters that were written, and their reading as a value. */
    private static final class Draft {
        private final char[] letters = new char[DRAFT_LIMIT];
        private int length;
        private int at;

        boolean add(char c) {
            if (!isPrintable(c) || length >= letters.length) {
                return false;
            }
            letters[length] = c;
            length++;
            return true;
        }

        /** Null when the draft is no value. */
        Value takeValue() {
            at = 0;
            Value value = readValue(1);
            boolean isWhole = at == length;
            length = 0;
            return isWhole ? value : null;
        }

        /** Null when the draft is no rule. */
        Rule takeRule() {
            Rule rule = Rule.read(letters, length);
            length = 0;
            return rule;
        }

        private char peek() {
            return at >= 0 && at < length && at < letters.length ? letters[at] : 0;
        }

        private Value readValue(int depth) {
            char c = peek();
            if (c == '[') {
                return depth <= DEPTH_LIMIT ? readList(depth) : null;
            }
            if (c == '"') {
                return readText();
            }
            return c == 'n' ? readNothing() : readNumber();
        }

        private Value readList(int depth) {
            Value list = Value.emptyList(LIST_LIMIT);
            at++;
            if (peek() == ']') {
                at++;
                return list;
            }
            for (int n = 0; n < LIST_LIMIT; n++) {
                if (!list.addItem(readValue(depth + 1))) {
                    return null;
                }
                char behind = peek();
                at++;
                if (behind == ']') {
                    return list;
                }
                if (behind != ',') {
                    return null;
                }
            }
            return null;
        }

        private Value readText() {
            Value text = Value.emptyText(TEXT_LIMIT);
            at++;
            for (int n = 0; n <= TEXT_LIMIT; n++) {
                char c = peek();
                at++;
                if (c == '"') {
                    return text;
                }
                if (!text.addLetter(c)) {
                    return null;
                }
            }
            return null;
        }

        private Value readNothing() {
            String form = Value.NOTHING_FORM;
            for (int i = 0; i < form.length(); i++) {
                if (peek() != form.charAt(i)) {
                    return null;
                }
                at++;
            }
            return Value.nothing();
        }

        private Value readNumber() {
            int begin = at;
            if (peek() == '-') {
                at++;
            }
            for (int n = 0; n < DRAFT_LIMIT && isDigit(peek()); n++) {
                at++;
            }
            int number = Value.numberIn(letters, begin, at);
            return number == Value.NO_NUMBER ? null : Value.ofNumber(number);
        }
    }

    /**
     * A rule, read once into a row of codes: a character stands for itself, a reference is its
     * beginning (an input or self), its accesses and its end.
     */
    private static final class Rule {
        static final int FIRST_INPUT = 200;
        static final int SELF = 204;
        static final int FIRST_ELEMENT = 300;
        static final int LENGTH = 308;
        static final int END = 400;

        static final String SELF_NAME = "self";
        static final String INPUTS_NAME = "inputs.";
        static final String LENGTH_NAME = ".length";

        private final int[] codes;
        private int count;
        private int letterCount;
        private int referenceCount;

        private Rule(int room) {
            codes = new int[Math.max(0, room)];
        }

        /** Null when the letters are no rule. */
        static Rule read(char[] letters, int length) {
            int end = Math.min(length, letters.length);
            Rule rule = new Rule(end);
            int at = 0;
            while (at < end) {
                if (stands("$(", letters, at, end)) {
                    int behind = rule.addReference(letters, at + 2, end);
                    if (behind <= at) {
                        return null;
                    }
                    at = behind;
                } else {
                    rule.addCode(letters[at]);
                    rule.letterCount++;
                    at++;
                }
            }
            return rule;
        }

        private static boolean stands(String name, char[] letters, int at, int end) {
            if (at < 0 || end > letters.length || name.length() > end - at) {
                return false;
            }
            for (int i = 0; i < name.length(); i++) {
                if (letters[at + i] != name.charAt(i)) {
                    return false;
                }
            }
            return true;
        }

        private void addCode(int code) {
            if (count < codes.length) {
                codes[count] = code;
                count++;
            }
        }

        /** Adds the reference that goes on at begin, and answers where it ended; -1 when it is none. */
        private int addReference(char[] letters, int begin, int end) {
            int at = begin;
            if (stands(SELF_NAME, letters, at, end)) {
                addCode(SELF);
                at += SELF_NAME.length();
            } else if (stands(INPUTS_NAME, letters, at, end)) {
                at += INPUTS_NAME.length();
                if (at >= end || letters[at] < 'a' || letters[at] > 'd') {
                    return NONE;
                }
                addCode(FIRST_INPUT + (letters[at] - 'a'));
                at++;
            } else {
                return NONE;
            }
            return addAccesses(letters, at, end);
        }

        private int addAccesses(char[] letters, int begin, int end) {
            int at = begin;
            while (at >= 0 && at < end) {
                if (letters[at] == ')') {
                    addCode(END);
                    referenceCount++;
                    return at + 1;
                }
                if (stands(LENGTH_NAME, letters, at, end)) {
                    addCode(LENGTH);
                    at += LENGTH_NAME.length();
                } else if (isElement(letters, at, end)) {
                    addCode(FIRST_ELEMENT + (letters[at + 1] - '0'));
                    at += 3;
                } else {
                    return NONE;
                }
            }
            return NONE;
        }

        private static boolean isElement(char[] letters, int at, int end) {
            if (end - at < 3 || letters[at] != '[' || letters[at + 2] != ']') {
                return false;
            }
            return letters[at + 1] >= '0' && letters[at + 1] <= '7';
        }

        /**
         * What the rule gives: a value that is there already, or one put into made; null when it
         * fails. What passing holds may be lost.
         */
        Value work(Value[] ports, Value self, Value made, Value passing) {
            if (letterCount == 0 && referenceCount == 1) {
                return reach(0, ports, self, made);
            }
            made.becomeText();
            for (int at = 0; at < count && at < codes.length; at++) {
                int code = codes[at];
                if (code < FIRST_INPUT) {
                    if (!made.addLetter((char) code)) {
                        return null;
                    }
                } else if (code < FIRST_ELEMENT) {
                    Value value = reach(at, ports, self, passing);
                    if (value == null || !made.addPlain(value)) {
                        return null;
                    }
                }
            }
            return made;
        }

        /** The value to which the reference leads that begins at a code; null when it cannot be. */
        private Value reach(int begin, Value[] ports, Value self, Value room) {
            if (begin < 0 || begin >= codes.length) {
                return null;
            }
            int which = codes[begin] - FIRST_INPUT;
            Value value = which >= 0 && which < ports.length ? ports[which] : self;
            for (int at = begin + 1; at < count && at < codes.length && codes[at] != END; at++) {
                if (value == null) {
                    return null;
                }
                if (codes[at] == LENGTH) {
                    value = value.hasLength() && room.becomeNumber(value.size) ? room : null;
                } else {
                    value = value.itemAt(codes[at] - FIRST_ELEMENT);
                }
            }
            return value;
        }
    }

    private static final class Tool {
        private final int kind;
        private final int[] places = new int[PORT_LIMIT];
        private final char[] prefixes = new char[PORT_LIMIT];
        private final int[] styles = new int[PORT_LIMIT];
        private final int[] order = new int[PORT_LIMIT];
        private int portCount;

        Tool(int kind) {
            this.kind = kind;
        }

        int addPort(int place, char prefix, int style) {
            if (portCount >= PORT_LIMIT) {
                return NONE;
            }
            int at = portCount;
            while (at > 0 && places[order[at - 1]] > place) {
                order[at] = order[at - 1];
                at--;
            }
            order[at] = portCount;
            places[portCount] = place;
            prefixes[portCount] = prefix;
            styles[portCount] = style;
            portCount++;
            return portCount - 1;
        }
    }

    private static final class Step {
        private final Tool tool;
        private final int[] sources = new int[PORT_LIMIT * SOURCE_LIMIT];
        private final int[] sourceCounts = new int[PORT_LIMIT];
        private final int[] merges = new int[PORT_LIMIT];
        private final int[] picks = new int[PORT_LIMIT];
        private final Value[] presets = new Value[PORT_LIMIT];
        private final Rule[] rules = new Rule[PORT_LIMIT];
        private Rule condition;
        private int scattered;
        private int method;

        Step(Tool tool) {
            this.tool = tool;
        }

        boolean addSource(int port, int source) {
            if (!isPort(port) || sourceCounts[port] >= SOURCE_LIMIT) {
                return false;
            }
            sources[port * SOURCE_LIMIT + sourceCounts[port]] = source;
            sourceCounts[port]++;
            return true;
        }

        /** A bit for each step among the sources of the ports that the tool has. */
        int neededSteps() {
            int needed = 0;
            for (int port = 0; port < tool.portCount && port < PORT_LIMIT; port++) {
                for (int n = 0; n < sourceCounts[port] && n < SOURCE_LIMIT; n++) {
                    int source = sources[port * SOURCE_LIMIT + n];
                    if (source >= FIRST_STEP_SOURCE) {
                        needed |= 1 << (source - FIRST_STEP_SOURCE);
                    }
                }
            }
            return needed;
        }

        /** A bit for each port that is scattered over and that the tool has. */
        int scatteredPorts() {
            return scattered & ((1 << tool.portCount) - 1);
        }
    }

    /** A job that is not skipped: its command, and the result that the command has. */
    private static final class Job {
        private final int stepNumber;
        private final int number;
        private final char[] letters = new char[WORD_LIMIT * WORD_LENGTH_LIMIT];
        private final int[] ends = new int[WORD_LIMIT];
        private int wordCount;
        private int length;
        private int lastBegin;

        Job(int stepNumber, int number) {
            this.stepNumber = stepNumber;
            this.number = number;
        }

        /** False when the command fails. */
        boolean makeCommand(Tool tool, Value[] values) {
            wordCount = 0;
            length = 0;
            for (int n = 0; n < tool.portCount && n < PORT_LIMIT; n++) {
                int port = tool.order[n];
                Value value = port >= 0 && port < values.length ? values[port] : null;
                if (value == null) {
                    return false;
                }
                boolean isEmpty = value.isNothing() || value.isList() && value.size == 0;
                boolean isShown = tool.styles[port] < STYLE_HIDDEN && !isEmpty;
                if (isShown && !addPortWords(tool.prefixes[port], tool.styles[port], value)) {
                    return false;
                }
            }
            return true;
        }

        private boolean addPortWords(char prefix, int style, Value value) {
            if (prefix != 0 && !(openWord() && addLetter('-') && addLetter(prefix))) {
                return false;
            }
            boolean isTakenApart = value.isList() && style >= STYLE_WORD_EACH;
            boolean isJoined = style == STYLE_JOINED && prefix != 0;
            int parts = isTakenApart ? value.size : 1;
            for (int i = 0; i < parts; i++) {
                boolean opens = i == 0 ? !isJoined : style == STYLE_WORD_EACH;
                if (opens && !openWord() || !opens && i > 0 && !addLetter(',')) {
                    return false;
                }
                Value part = isTakenApart ? value.itemAt(i) : value;
                if (part == null || !addPlain(part)) {
                    return false;
                }
            }
            return true;
        }

        private boolean openWord() {
            if (wordCount >= WORD_LIMIT) {
                return false;
            }
            ends[wordCount] = length;
            wordCount++;
            lastBegin = length;
            return true;
        }

        private boolean addLetter(char c) {
            int last = wordCount - 1;
            if (last < 0 || last >= WORD_LIMIT || length >= letters.length) {
                return false;
            }
            if (length - lastBegin >= WORD_LENGTH_LIMIT) {
                return false;
            }
            letters[length] = c;
            length++;
            ends[last] = length;
            return true;
        }

        private boolean addPlain(Value value) {
            int begin = value.plainBegin();
            int end = value.plainEnd();
            if (end - begin > WORD_LENGTH_LIMIT) {
                return false;
            }
            for (int i = begin; i < end; i++) {
                if (!addLetter((char) value.formAt(i))) {
                    return false;
                }
            }
            return true;
        }

        private int wordBegin(int j) {
            return j <= 0 || j > WORD_LIMIT ? 0 : ends[j - 1];
        }

        private int wordEnd(int j) {
            return j < 0 || j >= wordCount || j >= WORD_LIMIT ? 0 : ends[j];
        }

        /** The code of character i of word j; -1 when there is none. */
        int letterAt(int j, int i) {
            if (j < 0 || j >= wordCount || i < 0 || i >= wordEnd(j) - wordBegin(j)) {
                return NONE;
            }
            int at = wordBegin(j) + i;
            return at < 0 || at >= letters.length ? NONE : letters[at];
        }

        /** Null when the result fails. */
        Value makeResult(int kind) {
            switch (kind) {
                case ECHO:
                    return echoWords();
                case COUNT:
                    return Value.ofNumber(wordCount);
                case SUM:
                    return sumWords();
                case ITEMS:
                    return listWords();
                default:
                    return null;
            }
        }

        private Value echoWords() {
            Value text = Value.emptyText(TEXT_LIMIT);
            for (int j = 0; j < wordCount; j++) {
                if (j > 0 && !text.addLetter(' ')) {
                    return null;
                }
                if (!addWordTo(text, j)) {
                    return null;
                }
            }
            return text;
        }

        private boolean addWordTo(Value text, int j) {
            int end = wordEnd(j);
            for (int i = wordBegin(j); i >= 0 && i < end && i < letters.length; i++) {
                if (!text.addLetter(letters[i])) {
                    return false;
                }
            }
            return true;
        }

        private Value sumWords() {
            int sum = 0;
            for (int j = 0; j < wordCount; j++) {
                int number = Value.numberIn(letters, wordBegin(j), wordEnd(j));
                if (number == Value.NO_NUMBER) {
                    return null;
                }
                sum += number;
            }
            return Value.ofNumber(sum);
        }

        private Value listWords() {
            Value list = Value.emptyList(wordCount);
            for (int j = 0; j < wordCount; j++) {
                Value text = Value.emptyText(wordEnd(j) - wordBegin(j));
                if (!addWordTo(text, j) || !list.addItem(text)) {
                    return null;
                }
            }
            return list;
        }
    }

    /** How far a step is in a run. The jobs stay for later runs, which make new commands in them. */
    private static final class Progress {
        private final int stepNumber;
        private final Job[] jobs = new Job[JOB_LIMIT];
        private final Value[] results = new Value[JOB_LIMIT];
        private final int[] lengths = new int[PORT_LIMIT];
        private final Value emptyList = Value.emptyList(0);
        private int levels;
        private int jobCount;
        private int openCount;
        private int nextJob;
        private int takenResults;
        private int phase;
        private Value outcome;

        Progress(int stepNumber) {
            this.stepNumber = stepNumber;
        }

        void clear() {
            for (int n = 0; n < JOB_LIMIT; n++) {
                results[n] = null;
            }
            levels = 0;
            jobCount = 0;
            openCount = 0;
            nextJob = 0;
            phase = WAITING;
            outcome = null;
        }

        /** The outcome is lists in lists, as many levels as there are lengths added. */
        void addLevel(int length) {
            if (levels < PORT_LIMIT) {
                lengths[levels] = length;
                levels++;
            }
        }

        void skipJob(int n, Value result) {
            if (n >= 0 && n < JOB_LIMIT) {
                results[n] = result;
            }
        }

        /** Null when there is no such job. */
        Job openJob(int n) {
            if (n < 0 || n >= JOB_LIMIT) {
                return null;
            }
            if (jobs[n] == null) {
                jobs[n] = new Job(stepNumber, n);
            }
            openCount++;
            return jobs[n];
        }

        /** The next job that is neither skipped nor was taken before; null when there is none. */
        Job takeReadyJob() {
            while (nextJob < jobCount && nextJob < JOB_LIMIT) {
                int n = nextJob;
                nextJob++;
                if (results[n] == null) {
                    return jobs[n];
                }
            }
            return null;
        }

        void keepResult(int n, Value result) {
            if (n >= 0 && n < JOB_LIMIT && results[n] == null) {
                results[n] = result;
                openCount--;
            }
        }

        /** To be called when every job has a result. */
        void settle() {
            takenResults = 0;
            outcome = nest(0);
            phase = outcome == null ? BROKEN : DONE;
        }

        private Value nest(int level) {
            if (level >= levels || level >= PORT_LIMIT) {
                return takeResult();
            }
            if (lengths[level] == 0) {
                return emptyList;
            }
            Value list = Value.emptyList(lengths[level]);
            for (int i = 0; i < lengths[level]; i++) {
                if (!list.addItem(nest(level + 1))) {
                    return null;
                }
            }
            return list;
        }

        private Value takeResult() {
            if (takenResults < 0 || takenResults >= JOB_LIMIT) {
                return null;
            }
            takenResults++;
            return results[takenResults - 1];
        }
    }

    /**
     * Makes a step's jobs. The values of ports end with the expansion (jobs keep only words), so all
     * of them stand in rows that every expansion uses again.
     */
    private static final class Expander {
        private final Value nothing = Value.nothing();
        private final Value always = Value.emptyText(0);
        private final Value[] merged = new Value[PORT_LIMIT];
        private final Value[] picked = new Value[PORT_LIMIT];
        private final Value[] made = new Value[PORT_LIMIT];
        private final Value verdict = Value.emptyText(TEXT_LIMIT);
        private final Value passing = Value.emptyText(TEXT_LIMIT);
        private final Value[] whole = new Value[PORT_LIMIT];
        private final Value[] before = new Value[PORT_LIMIT];
        private final Value[] after = new Value[PORT_LIMIT];

        Expander() {
            for (int port = 0; port < PORT_LIMIT; port++) {
                merged[port] = Value.emptyList(LIST_LIMIT);
                picked[port] = Value.emptyList(LIST_LIMIT);
                made[port] = Value.emptyText(TEXT_LIMIT);
                whole[port] = nothing;
                before[port] = nothing;
                after[port] = nothing;
            }
        }

        /** False when the step fails. */
        boolean expand(Step step, Progress progress, Progress[] others, Value[] inputs) {
            if (!fillPorts(step, others, inputs)) {
                return false;
            }
            int jobs = countJobs(step, progress);
            if (jobs < 0 || jobs > JOB_LIMIT) {
                return false;
            }
            for (int n = 0; n < jobs; n++) {
                chooseElements(step, n);
                if (!workRules(step)) {
                    return false;
                }
                Rule condition = step.condition;
                Value answer = condition == null ? always : condition.work(after, nothing, verdict, passing);
                if (answer == null) {
                    return false;
                }
                if (answer.isOff()) {
                    progress.skipJob(n, nothing);
                    continue;
                }
                Job job = progress.openJob(n);
                if (job == null || !job.makeCommand(step.tool, after)) {
                    return false;
                }
            }
            progress.jobCount = jobs;
            return true;
        }

        private boolean fillPorts(Step step, Progress[] others, Value[] inputs) {
            for (int port = 0; port < PORT_LIMIT; port++) {
                whole[port] = nothing;
                if (port < step.tool.portCount) {
                    Value value = merge(step, port, others, inputs);
                    value = value == null ? null : pick(step.picks[port], value, picked[port]);
                    if (value == null) {
                        return false;
                    }
                    Value preset = step.presets[port];
                    whole[port] = value.isNothing() && preset != null ? preset : value;
                }
            }
            return true;
        }

        private Value merge(Step step, int port, Progress[] others, Value[] inputs) {
            int count = Math.min(step.sourceCounts[port], SOURCE_LIMIT);
            int first = port * SOURCE_LIMIT;
            if (count == 0) {
                return nothing;
            }
            if (count == 1 && step.merges[port] == 0) {
                return sourceValue(step.sources[first], others, inputs);
            }
            Value list = merged[port];
            list.becomeList();
            for (int n = 0; n < count; n++) {
                Value value = sourceValue(step.sources[first + n], others, inputs);
                if (value == null) {
                    return null;
                }
                boolean isSpread = step.merges[port] == MERGE_FLAT && value.isList();
                if (isSpread ? !list.addItemsOf(value) : !list.addItem(value)) {
                    return null;
                }
            }
            return list;
        }

        private static Value sourceValue(int source, Progress[] others, Value[] inputs) {
            if (source >= 0 && source < inputs.length) {
                return inputs[source];
            }
            int s = source - FIRST_STEP_SOURCE;
            Progress other = s >= 0 && s < others.length ? others[s] : null;
            return other == null ? null : other.outcome;
        }

        private static Value pick(int pick, Value value, Value list) {
            if (pick == 0) {
                return value;
            }
            if (!value.isList()) {
                return null;
            }
            list.becomeList();
            for (int i = 0; i < value.size; i++) {
                Value item = value.itemAt(i);
                if (item == null || !item.isNothing() && !list.addItem(item)) {
                    return null;
                }
            }
            if (pick == PICK_ALL) {
                return list;
            }
            return pick == PICK_ONLY && list.size != 1 ? null : list.itemAt(0);
        }

        /** How many jobs the step has, telling the levels of its outcome; -1 when it fails. */
        private int countJobs(Step step, Progress progress) {
            int ports = step.scatteredPorts();
            if (ports == 0) {
                return 1;
            }
            boolean isCrossed = step.method != METHOD_SIDE_BY_SIDE;
            boolean isNested = step.method == METHOD_NESTED;
            int jobs = NONE;
            for (int port = 0; port < PORT_LIMIT; port++) {
                if (!hasBit(ports, port)) {
                    continue;
                }
                Value list = whole[port];
                boolean isFirst = jobs == NONE;
                boolean isUnlike = !isCrossed && !isFirst && jobs != list.size;
                if (!list.isList() || isUnlike) {
                    return NONE;
                }
                jobs = isCrossed && !isFirst ? jobs * list.size : list.size;
                if (isNested) {
                    progress.addLevel(list.size);
                }
            }
            if (!isNested) {
                progress.addLevel(jobs);
            }
            return jobs;
        }

        /** The last port's element changes fastest, so the job's number is taken apart from there. */
        private void chooseElements(Step step, int n) {
            int ports = step.scatteredPorts();
            boolean isCrossed = step.method != METHOD_SIDE_BY_SIDE;
            int rest = n;
            for (int port = PORT_LIMIT - 1; port >= 0; port--) {
                Value list = whole[port];
                before[port] = list;
                if (hasBit(ports, port) && list.size > 0) {
                    Value element = list.itemAt(isCrossed ? rest % list.size : n);
                    before[port] = element == null ? nothing : element;
                    rest = rest / list.size;
                }
            }
        }

        private boolean workRules(Step step) {
            for (int port = 0; port < PORT_LIMIT; port++) {
                Rule rule = port < step.tool.portCount ? step.rules[port] : null;
                Value value = before[port];
                if (rule != null) {
                    value = rule.work(before, before[port], made[port], passing);
                }
                if (value == null) {
                    return false;
                }
                after[port] = value;
            }
            return true;
        }
    }

    /** The latest run. */
    private static final class Run {
        private final Expander expander = new Expander();
        private final Progress[] progress = new Progress[STEP_LIMIT];
        private final Job[] active = new Job[WORKER_LIMIT];
        private int activeCount;
        private int startedCount;
        private Step[] steps = new Step[0];
        private Value[] inputs = new Value[0];
        private int stepCount;
        private int workers;
        private boolean hasFailed;
        private int status = NEVER_RUN;

        Run() {
            for (int s = 0; s < STEP_LIMIT; s++) {
                progress[s] = new Progress(s);
            }
        }

        boolean goesOn() {
            return status == GOING_ON;
        }

        void begin(Step[] steps, int stepCount, Value[] inputs, int workers) {
            this.steps = steps;
            this.stepCount = Math.min(stepCount, Math.min(steps.length, STEP_LIMIT));
            this.inputs = inputs;
            this.workers = Math.min(workers, WORKER_LIMIT);
            activeCount = 0;
            startedCount = 0;
            hasFailed = false;
            status = GOING_ON;
            for (int s = 0; s < STEP_LIMIT; s++) {
                progress[s].clear();
            }
        }

        /** Expands and starts what can be, and ends the run when no job runs then. */
        void advance() {
            for (int round = 0; round < stepCount && !hasFailed; round++) {
                int next = nextToExpand();
                if (next == NONE) {
                    break;
                }
                Progress mine = progress[next];
                if (!expander.expand(steps[next], mine, progress, inputs)) {
                    mine.phase = BROKEN;
                } else {
                    mine.phase = EXPANDED;
                    settleWhenComplete(mine);
                }
                hasFailed = hasFailed || mine.phase == BROKEN;
            }
            if (!hasFailed) {
                startJobs();
            }
            if (activeCount == 0) {
                status = hasFailed ? FAILED : SUCCESS;
            }
        }

        private int nextToExpand() {
            int done = 0;
            for (int s = 0; s < stepCount; s++) {
                done |= progress[s].phase == DONE ? 1 << s : 0;
            }
            for (int s = 0; s < stepCount; s++) {
                Step step = steps[s];
                boolean waits = step != null && progress[s].phase == WAITING;
                if (waits && (step.neededSteps() & ~done) == 0) {
                    return s;
                }
            }
            return NONE;
        }

        private void startJobs() {
            for (int s = 0; s < stepCount; s++) {
                for (int n = 0; n < WORKER_LIMIT && activeCount < workers; n++) {
                    Job job = progress[s].phase == EXPANDED ? progress[s].takeReadyJob() : null;
                    if (job == null) {
                        break;
                    }
                    active[activeCount] = job;
                    activeCount++;
                    startedCount++;
                }
            }
        }

        private static void settleWhenComplete(Progress mine) {
            if (mine.phase == EXPANDED && mine.openCount == 0) {
                mine.settle();
            }
        }

        /** Null when there is no such running job. */
        Job activeJob(int k) {
            return k < 0 || k >= activeCount || k >= WORKER_LIMIT ? null : active[k];
        }

        /** False when there is no such running job. */
        boolean endJob(int k) {
            Job job = activeJob(k);
            if (job == null || job.stepNumber < 0 || job.stepNumber >= stepCount) {
                return false;
            }
            activeCount--;
            for (int i = k; i < activeCount; i++) {
                active[i] = active[i + 1];
            }
            Step step = steps[job.stepNumber];
            Progress mine = progress[job.stepNumber];
            Value result = step == null ? null : job.makeResult(step.tool.kind);
            if (result == null) {
                mine.phase = BROKEN;
            } else {
                mine.keepResult(job.number, result);
                settleWhenComplete(mine);
            }
            hasFailed = hasFailed || mine.phase == BROKEN;
            return true;
        }

        int phaseOf(int step) {
            return step < 0 || step >= stepCount ? WAITING : progress[step].phase;
        }

        /** Null when the step is not done. */
        Value outcomeOf(int step) {
            return phaseOf(step) == DONE ? progress[step].outcome : null;
        }
    }
}
