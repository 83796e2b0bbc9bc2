/**
 * A StepRunner whose calls are counted: what it answers behind the 512th is free, so a test that
 * goes beyond tests nothing, and is told so.
 */
final class Counted {
    static final int LIMIT = 512;

    private final StepRunner real = new StepRunner();
    private int calls = 0;

    private StepRunner next() {
        calls++;
        if (calls == LIMIT + 1) {
            Expect.equal("a test makes more calls on one object than " + LIMIT, calls, LIMIT);
            new Throwable("the call is made here").printStackTrace(System.out);
        }
        return real;
    }

    int calls() {
        return calls;
    }

    boolean write(char c) {
        return next().write(c);
    }

    int tool(int kind) {
        return next().tool(kind);
    }

    int port(int tool, int place, char prefix, int style) {
        return next().port(tool, place, prefix, style);
    }

    int step(int tool) {
        return next().step(tool);
    }

    boolean link(int step, int port, int source) {
        return next().link(step, port, source);
    }

    boolean gather(int step, int port, int merge, int pick) {
        return next().gather(step, port, merge, pick);
    }

    boolean preset(int step, int port) {
        return next().preset(step, port);
    }

    boolean from(int step, int port) {
        return next().from(step, port);
    }

    boolean when(int step) {
        return next().when(step);
    }

    boolean scatter(int step, int ports, int method) {
        return next().scatter(step, ports, method);
    }

    boolean input(int k) {
        return next().input(k);
    }

    int start(int workers) {
        return next().start(workers);
    }

    boolean finish(int k) {
        return next().finish(k);
    }

    int status() {
        return next().status();
    }

    int running() {
        return next().running();
    }

    int started() {
        return next().started();
    }

    int job(int k, int w) {
        return next().job(k, w);
    }

    int word(int k, int j, int i) {
        return next().word(k, j, i);
    }

    int state(int step) {
        return next().state(step);
    }

    int output(int step, int i) {
        return next().output(step, i);
    }
}
