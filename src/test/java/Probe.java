/** A StepRunner with calls that take whole drafts and tell whole words and outputs. */
final class Probe {
    final Counted x = new Counted();

    Probe type(String draft) {
        for (int i = 0; i < draft.length(); i++) {
            Expect.yes("write(" + draft.charAt(i) + ") of " + draft, x.write(draft.charAt(i)));
        }
        return this;
    }

    boolean input(int k, String draft) {
        return type(draft).x.input(k);
    }

    boolean preset(int step, int port, String draft) {
        return type(draft).x.preset(step, port);
    }

    boolean from(int step, int port, String draft) {
        return type(draft).x.from(step, port);
    }

    boolean when(int step, String draft) {
        return type(draft).x.when(step);
    }

    /** A new tool with ports of the styles, without prefixes, in order. */
    int tool(int kind, int... styles) {
        int tool = x.tool(kind);
        for (int style : styles) {
            x.port(tool, 0, (char) 0, style);
        }
        return tool;
    }

    /** A new step whose port p has the source sources[p]; below 0: none. */
    int step(int tool, int... sources) {
        int step = x.step(tool);
        for (int port = 0; port < sources.length; port++) {
            if (sources[port] >= 0) {
                x.link(step, port, sources[port]);
            }
        }
        return step;
    }

    /** Starts with a worker and ends all jobs, the oldest first: the status then. */
    int runAll() {
        Expect.equal("start(1)", x.start(1), 0);
        for (int turn = 0; turn < 200 && x.finish(0); turn++) {
            Expect.equal("running() is 0 when and only when the run is over", x.running() == 0, x.status() != 1);
        }
        return x.status();
    }

    /** The form of a step's output; null when there is none. */
    String output(int step) {
        StringBuilder form = new StringBuilder();
        for (int code = x.output(step, 0); code != -1; code = x.output(step, form.length())) {
            form.append((char) code);
        }
        return form.length() == 0 ? null : form.toString();
    }

    /** The words of the k-th running job, each between < and >; null when there is no such job. */
    String command(int k) {
        int words = x.job(k, 2);
        if (words < 0) {
            return null;
        }
        StringBuilder all = new StringBuilder();
        for (int j = 0; j < words; j++) {
            all.append('<');
            int i = 0;
            for (int code = x.word(k, j, i); code != -1; code = x.word(k, j, i)) {
                all.append((char) code);
                i++;
            }
            all.append('>');
        }
        return all.toString();
    }

    /** Step and number of each running job, in order. */
    String jobs() {
        StringBuilder all = new StringBuilder();
        int running = x.running();
        for (int k = 0; k < running; k++) {
            all.append(k > 0 ? " " : "").append(x.job(k, 0)).append('.').append(x.job(k, 1));
        }
        return all.toString();
    }

    /** All that the object tells of its latest run. */
    String tell() {
        StringBuilder all = new StringBuilder();
        all.append("status ").append(x.status()).append(", started ").append(x.started());
        all.append(", running ").append(jobs());
        for (int k = 0; k < 3; k++) {
            String command = command(k);
            all.append(command == null ? "" : " " + command);
        }
        for (int s = 0; s < 6; s++) {
            int state = x.state(s);
            all.append(", step ").append(s).append(' ').append(state);
            all.append(state == 2 ? " " + output(s) : "");
        }
        return all.toString();
    }
}
