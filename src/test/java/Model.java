import java.util.ArrayList;
import java.util.List;
import java.util.regex.Matcher;
import java.util.regex.Pattern;

/**
 * The document once more, written with the Java library and as near to its words as can be, to be
 * compared with StepRunner. A value is NIL, an Integer, a String or a List of values.
 */
final class Model {
    static final Object NIL = new Object();
    private static final Pattern REFERENCE =
        Pattern.compile("\\$\\((inputs\\.[a-d]|self)((?:\\[[0-7]\\]|\\.length)*)\\)");
    private static final Pattern ACCESS = Pattern.compile("\\[([0-7])\\]|\\.length");

    private static final class Failure extends RuntimeException {
        private static final long serialVersionUID = 1L;
    }

    private static final class Port {
        int place;
        char prefix;
        int style;
    }

    private static final class Tool {
        int kind;
        final List<Port> ports = new ArrayList<>();
    }

    private static final class Step {
        Tool tool;
        final List<List<Integer>> sources = new ArrayList<>();
        final int[] merge = new int[4];
        final int[] pick = new int[4];
        final Object[] preset = new Object[4];
        final String[] rule = new String[4];
        String when;
        int scattered;
        int method;

        Step() {
            for (int p = 0; p < 4; p++) {
                sources.add(new ArrayList<>());
            }
        }
    }

    private static final class Job {
        int step;
        int number;
        List<String> words;
        boolean started;
        Object result;
    }

    private static final class Track {
        Step step;
        int state;
        List<Job> jobs = new ArrayList<>();
        List<Integer> sizes = new ArrayList<>();
        Object output;
    }

    private String draft = "";
    private final List<Tool> tools = new ArrayList<>();
    private final List<Step> steps = new ArrayList<>();
    private final Object[] inputs = {NIL, NIL, NIL};
    private int status = 0;
    private int workers;
    private int started;
    private boolean failed;
    private List<Track> tracks = new ArrayList<>();
    private List<Job> active = new ArrayList<>();

    // ---- values

    private static int depth(Object value) {
        int deepest = 0;
        if (value instanceof List<?> list) {
            for (Object item : list) {
                deepest = Math.max(deepest, depth(item));
            }
            return deepest + 1;
        }
        return 0;
    }

    private static boolean isValue(Object value) {
        if (value instanceof Integer number) {
            return Math.abs(number) <= 999999;
        }
        if (value instanceof String text) {
            return text.length() <= 24 && text.matches("[ -~]*") && !text.contains("\"") && !text.contains("\\");
        }
        if (value instanceof List<?> list) {
            for (Object item : list) {
                if (!isValue(item)) {
                    return false;
                }
            }
            return list.size() <= 8 && depth(list) <= 3;
        }
        return value == NIL;
    }

    private static Object must(Object value) {
        if (!isValue(value)) {
            throw new Failure();
        }
        return value;
    }

    static String form(Object value) {
        if (value instanceof Integer number) {
            return String.valueOf(number);
        }
        if (value instanceof String text) {
            return '"' + text + '"';
        }
        if (value instanceof List<?> list) {
            List<String> forms = new ArrayList<>();
            for (Object item : list) {
                forms.add(form(item));
            }
            return "[" + String.join(",", forms) + "]";
        }
        return "null";
    }

    private static String plain(Object value) {
        return value instanceof String text ? text : form(value);
    }

    /** A reading that takes too much; what is no form has another form in the end. */
    private static Object readLoosely(String text) {
        if (text.matches("-?[0-9]{1,8}")) {
            return Integer.parseInt(text);
        }
        if (text.length() >= 2 && text.startsWith("\"") && text.endsWith("\"")) {
            return text.substring(1, text.length() - 1);
        }
        if (text.length() >= 2 && text.startsWith("[") && text.endsWith("]")) {
            List<Object> list = new ArrayList<>();
            int open = 0;
            boolean quoted = false;
            int begin = 1;
            for (int i = 1; i < text.length() && text.length() > 2; i++) {
                char c = text.charAt(i);
                boolean last = i == text.length() - 1;
                if (last || c == ',' && open == 0 && !quoted) {
                    list.add(readLoosely(text.substring(begin, i)));
                    begin = i + 1;
                }
                quoted ^= c == '"';
                open += quoted ? 0 : c == '[' ? 1 : c == ']' ? -1 : 0;
            }
            return list;
        }
        return NIL;
    }

    private Object takeValue() {
        String text = draft;
        draft = "";
        Object value = readLoosely(text);
        return isValue(value) && form(value).equals(text) ? value : null;
    }

    private String takeRule() {
        String text = draft;
        draft = "";
        Matcher matcher = REFERENCE.matcher(text);
        for (int at = text.indexOf("$("); at >= 0; at = text.indexOf("$(", at + 1)) {
            if (!matcher.region(at, text.length()).lookingAt()) {
                return null;
            }
        }
        return text;
    }

    // ---- building

    private boolean busy() {
        return status == 1;
    }

    private Step stepOf(int step) {
        return busy() || step < 0 || step >= steps.size() ? null : steps.get(step);
    }

    boolean write(char c) {
        if (c < 32 || c > 126 || draft.length() == 60) {
            return false;
        }
        draft += c;
        return true;
    }

    int tool(int kind) {
        if (busy() || tools.size() == 4 || kind < 0 || kind > 3) {
            return -1;
        }
        Tool tool = new Tool();
        tool.kind = kind;
        tools.add(tool);
        return tools.size() - 1;
    }

    int port(int tool, int place, char prefix, int style) {
        if (busy() || tool < 0 || tool >= tools.size() || tools.get(tool).ports.size() == 4) {
            return -1;
        }
        if (Math.abs((long) place) > 9 || prefix != 0 && (prefix < 'a' || prefix > 'z') || style < 0 || style > 4) {
            return -1;
        }
        Port port = new Port();
        port.place = place;
        port.prefix = prefix;
        port.style = style;
        tools.get(tool).ports.add(port);
        return tools.get(tool).ports.size() - 1;
    }

    int step(int tool) {
        if (busy() || steps.size() == 6 || tool < 0 || tool >= tools.size()) {
            return -1;
        }
        Step step = new Step();
        step.tool = tools.get(tool);
        steps.add(step);
        return steps.size() - 1;
    }

    boolean link(int step, int port, int source) {
        Step owner = stepOf(step);
        if (owner == null || port < 0 || port > 3 || owner.sources.get(port).size() == 3) {
            return false;
        }
        return (source >= 0 && source <= 2 || source >= 10 && source <= 15) && owner.sources.get(port).add(source);
    }

    boolean gather(int step, int port, int merge, int pick) {
        Step owner = stepOf(step);
        if (owner == null || port < 0 || port > 3 || merge < 0 || merge > 2 || pick < 0 || pick > 3) {
            return false;
        }
        owner.merge[port] = merge;
        owner.pick[port] = pick;
        return true;
    }

    boolean preset(int step, int port) {
        Object value = takeValue();
        Step owner = stepOf(step);
        if (value == null || owner == null || port < 0 || port > 3) {
            return false;
        }
        owner.preset[port] = value;
        return true;
    }

    boolean from(int step, int port) {
        String rule = takeRule();
        Step owner = stepOf(step);
        if (rule == null || owner == null || port < 0 || port > 3) {
            return false;
        }
        owner.rule[port] = rule;
        return true;
    }

    boolean when(int step) {
        String rule = takeRule();
        Step owner = stepOf(step);
        if (rule == null || owner == null) {
            return false;
        }
        owner.when = rule;
        return true;
    }

    boolean scatter(int step, int ports, int method) {
        Step owner = stepOf(step);
        if (owner == null || ports < 0 || ports > 15 || method < 0 || method > 2) {
            return false;
        }
        owner.scattered = ports;
        owner.method = method;
        return true;
    }

    boolean input(int k) {
        Object value = takeValue();
        if (value == null || busy() || k < 0 || k > 2) {
            return false;
        }
        inputs[k] = value;
        return true;
    }

    // ---- running

    private static List<Integer> stepSources(Step step) {
        List<Integer> all = new ArrayList<>();
        for (int p = 0; p < step.tool.ports.size(); p++) {
            for (int source : step.sources.get(p)) {
                if (source >= 10) {
                    all.add(source - 10);
                }
            }
        }
        return all;
    }

    private boolean leadsTo(int here, int goal, int hops) {
        for (int source : stepSources(steps.get(here))) {
            if (source == goal || hops > 0 && leadsTo(source, goal, hops - 1)) {
                return true;
            }
        }
        return false;
    }

    int start(int workers) {
        if (busy() || workers < 1 || workers > 3) {
            return -1;
        }
        for (Step step : steps) {
            for (int source : stepSources(step)) {
                if (source >= steps.size()) {
                    return 1;
                }
            }
        }
        for (int s = 0; s < steps.size(); s++) {
            if (leadsTo(s, s, 6)) {
                return 2;
            }
        }
        this.workers = workers;
        started = 0;
        failed = false;
        status = 1;
        active = new ArrayList<>();
        tracks = new ArrayList<>();
        for (Step step : steps) {
            Track track = new Track();
            track.step = step;
            tracks.add(track);
        }
        goOn();
        return 0;
    }

    private void goOn() {
        for (int s = 0; s < tracks.size() && !failed; s++) {
            if (canExpand(s)) {
                try {
                    expand(s);
                    tracks.get(s).state = 1;
                    endStep(tracks.get(s));
                } catch (Failure failure) {
                    tracks.get(s).state = 3;
                    tracks.get(s).jobs.clear();
                    failed = true;
                }
                s = -1;
            }
        }
        for (Track track : tracks) {
            for (Job job : track.jobs) {
                if (!failed && active.size() < workers && !job.started && job.result == null) {
                    job.started = true;
                    started++;
                    active.add(job);
                }
            }
        }
        if (active.isEmpty()) {
            status = failed ? 3 : 2;
        }
    }

    private boolean canExpand(int s) {
        boolean can = tracks.get(s).state == 0;
        for (int source : stepSources(tracks.get(s).step)) {
            can &= tracks.get(source).state == 2;
        }
        return can;
    }

    private void expand(int s) {
        Track track = tracks.get(s);
        Step step = track.step;
        int ports = step.tool.ports.size();
        List<Object> values = new ArrayList<>();
        for (int p = 0; p < ports; p++) {
            Object value = pick(step.pick[p], must(merge(step, p)));
            values.add(value == NIL && step.preset[p] != null ? step.preset[p] : value);
        }
        List<List<Object>> choices = new ArrayList<>();
        List<Integer> over = new ArrayList<>();
        for (int p = 0; p < ports; p++) {
            if ((step.scattered & 1 << p) != 0) {
                if (!(values.get(p) instanceof List<?> list)) {
                    throw new Failure();
                }
                over.add(p);
                track.sizes.add(list.size());
            }
        }
        if (over.isEmpty()) {
            choices.add(values);
        } else if (step.method == 0) {
            for (int size : track.sizes) {
                if (size != track.sizes.get(0)) {
                    throw new Failure();
                }
            }
            for (int i = 0; i < track.sizes.get(0); i++) {
                List<Object> choice = new ArrayList<>(values);
                for (int p : over) {
                    choice.set(p, ((List<?>) values.get(p)).get(i));
                }
                choices.add(choice);
            }
        } else {
            cross(values, over, 0, values, choices);
        }
        if (choices.size() > 16) {
            throw new Failure();
        }
        for (int n = 0; n < choices.size(); n++) {
            track.jobs.add(makeJob(s, n, step, choices.get(n)));
        }
    }

    private static void cross(List<Object> values, List<Integer> over, int level, List<Object> chosen,
                              List<List<Object>> choices) {
        if (level == over.size()) {
            choices.add(chosen);
            return;
        }
        for (Object item : (List<?>) values.get(over.get(level))) {
            List<Object> next = new ArrayList<>(chosen);
            next.set(over.get(level), item);
            cross(values, over, level + 1, next, choices);
        }
    }

    private Object merge(Step step, int p) {
        List<Integer> sources = step.sources.get(p);
        List<Object> all = new ArrayList<>();
        for (int source : sources) {
            Object value = source < 10 ? inputs[source] : tracks.get(source - 10).output;
            if (sources.size() == 1 && step.merge[p] == 0) {
                return value;
            }
            if (step.merge[p] == 2 && value instanceof List<?> list) {
                all.addAll(list);
            } else {
                all.add(value);
            }
        }
        return sources.isEmpty() ? NIL : all;
    }

    private static Object pick(int pick, Object value) {
        if (pick == 0) {
            return value;
        }
        if (!(value instanceof List<?> list)) {
            throw new Failure();
        }
        List<Object> kept = new ArrayList<>(list);
        kept.removeIf(item -> item == NIL);
        if (pick == 3) {
            return kept;
        }
        if (kept.isEmpty() || pick == 2 && kept.size() != 1) {
            throw new Failure();
        }
        return kept.get(0);
    }

    private static Job makeJob(int s, int n, Step step, List<Object> before) {
        Job job = new Job();
        job.step = s;
        job.number = n;
        List<Object> after = new ArrayList<>(before);
        for (int p = 0; p < before.size(); p++) {
            if (step.rule[p] != null) {
                after.set(p, work(step.rule[p], before, before.get(p)));
            }
        }
        if (step.when != null) {
            Object verdict = work(step.when, after, NIL);
            if (verdict == NIL || verdict.equals(0)) {
                job.result = NIL;
                return job;
            }
        }
        job.words = command(step.tool, after);
        return job;
    }

    private static Object work(String rule, List<Object> ports, Object self) {
        Matcher matcher = REFERENCE.matcher(rule);
        if (matcher.matches()) {
            return reach(matcher.group(1), matcher.group(2), ports, self);
        }
        matcher.reset();
        StringBuilder text = new StringBuilder();
        int behind = 0;
        while (matcher.find()) {
            text.append(rule, behind, matcher.start());
            text.append(plain(reach(matcher.group(1), matcher.group(2), ports, self)));
            behind = matcher.end();
        }
        return must(text.append(rule.substring(behind)).toString());
    }

    private static Object reach(String name, String accesses, List<Object> ports, Object self) {
        Object value = self;
        if (!name.equals("self")) {
            int p = name.charAt(name.length() - 1) - 'a';
            value = p < ports.size() ? ports.get(p) : NIL;
        }
        Matcher matcher = ACCESS.matcher(accesses);
        while (matcher.find()) {
            if (matcher.group(1) == null && value instanceof String text) {
                value = text.length();
            } else if (matcher.group(1) == null && value instanceof List<?> list) {
                value = list.size();
            } else if (matcher.group(1) != null && value instanceof List<?> list
                && Integer.parseInt(matcher.group(1)) < list.size()) {
                value = list.get(Integer.parseInt(matcher.group(1)));
            } else {
                throw new Failure();
            }
        }
        return value;
    }

    private static List<String> command(Tool tool, List<Object> values) {
        List<String> words = new ArrayList<>();
        for (int place = -9; place <= 9; place++) {
            for (int p = 0; p < values.size(); p++) {
                Port port = tool.ports.get(p);
                Object value = values.get(p);
                boolean isEmpty = value == NIL || value instanceof List<?> none && none.isEmpty();
                if (port.place != place || port.style == 4 || isEmpty) {
                    continue;
                }
                String prefix = port.prefix == 0 ? "" : "-" + port.prefix;
                if (port.style == 1) {
                    words.add(prefix + plain(value));
                    continue;
                }
                if (port.prefix != 0) {
                    words.add(prefix);
                }
                List<String> parts = new ArrayList<>();
                if (port.style >= 2 && value instanceof List<?> list) {
                    for (Object item : list) {
                        parts.add(plain(item));
                    }
                } else {
                    parts.add(plain(value));
                }
                if (port.style == 3) {
                    words.add(String.join(",", parts));
                } else {
                    words.addAll(parts);
                }
            }
        }
        for (String word : words) {
            if (word.length() > 24 || words.size() > 8) {
                throw new Failure();
            }
        }
        return words;
    }

    private static Object result(int kind, List<String> words) {
        if (kind == 0) {
            return must(String.join(" ", words));
        }
        if (kind == 1) {
            return words.size();
        }
        if (kind == 3) {
            return must(new ArrayList<Object>(words));
        }
        int sum = 0;
        for (String word : words) {
            if (!word.matches("0|-?[1-9][0-9]{0,5}")) {
                throw new Failure();
            }
            sum += Integer.parseInt(word);
        }
        return must(sum);
    }

    private void endStep(Track track) {
        List<Object> results = new ArrayList<>();
        for (Job job : track.jobs) {
            if (job.result == null) {
                return;
            }
            results.add(job.result);
        }
        if (track.sizes.isEmpty()) {
            track.output = must(results.get(0));
        } else if (track.step.method == 2) {
            track.output = must(nest(track.sizes, 0, results));
        } else {
            track.output = must(results);
        }
        track.state = 2;
    }

    private static Object nest(List<Integer> sizes, int level, List<Object> results) {
        if (level == sizes.size()) {
            return results.remove(0);
        }
        List<Object> list = new ArrayList<>();
        for (int i = 0; i < sizes.get(level); i++) {
            list.add(nest(sizes, level + 1, results));
        }
        return list;
    }

    boolean finish(int k) {
        if (k < 0 || k >= active.size()) {
            return false;
        }
        Job job = active.remove(k);
        Track track = tracks.get(job.step);
        try {
            job.result = result(track.step.tool.kind, job.words);
            if (track.state == 1) {
                endStep(track);
            }
        } catch (Failure failure) {
            track.state = 3;
            failed = true;
        }
        goOn();
        return true;
    }

    // ---- telling

    int status() {
        return status;
    }

    int running() {
        return active.size();
    }

    int started() {
        return started;
    }

    int job(int k, int w) {
        if (k < 0 || k >= active.size() || w < 0 || w > 2) {
            return -1;
        }
        Job job = active.get(k);
        return w == 0 ? job.step : w == 1 ? job.number : job.words.size();
    }

    int word(int k, int j, int i) {
        if (k < 0 || k >= active.size() || j < 0 || j >= active.get(k).words.size()) {
            return -1;
        }
        String word = active.get(k).words.get(j);
        return i < 0 || i >= word.length() ? -1 : word.charAt(i);
    }

    int state(int step) {
        if (status == 0 || step < 0 || step >= steps.size()) {
            return -1;
        }
        return step < tracks.size() ? tracks.get(step).state : 0;
    }

    int output(int step, int i) {
        if (step < 0 || step >= tracks.size() || tracks.get(step).state != 2) {
            return -1;
        }
        String form = form(tracks.get(step).output);
        return i < 0 || i >= form.length() ? -1 : form.charAt(i);
    }
}
