/**
 * Two objects that are built alike: on one of them a call is made that is refused, and as nothing
 * has changed then, both must go on alike.
 */
final class Twins {
    /** What is done with an object before the call. */
    interface Building {
        void on(Probe p);
    }

    /** The call, with its answer. */
    interface Call {
        Object on(Probe p);
    }

    private Twins() {
    }

    static void unchanged(String what, Building building, Call call, Object due) {
        Probe touched = new Probe();
        Probe other = new Probe();
        building.on(touched);
        building.on(other);
        String before = touched.tell();
        Expect.equal(what, call.on(touched), due);
        Expect.equal(what + ": it tells the same as before", touched.tell(), before);
        Expect.equal(what + ": it goes on as if there had been no call", goOn(touched), goOn(other));
    }

    /** Ends the run, runs all again, and then builds until nothing more can be built. */
    private static String goOn(Probe p) {
        StringBuilder trace = new StringBuilder();
        for (int n = 0; n < 40 && p.x.finish(0); n++) {
            trace.append('.');
        }
        trace.append(" start ").append(p.x.start(2)).append(": ").append(p.command(0));
        for (int n = 0; n < 40 && p.x.finish(0); n++) {
            trace.append(' ').append(p.command(0));
        }
        trace.append(' ').append(p.tell());
        return trace.append(roomLeft(p)).toString();
    }

    private static String roomLeft(Probe p) {
        StringBuilder trace = new StringBuilder(" draft ");
        int written = 0;
        while (written < 61 && p.x.write('1')) {
            written++;
        }
        p.x.input(0);
        trace.append(written).append(" tools");
        for (int n = 0; n < 5; n++) {
            trace.append(' ').append(p.x.tool(0));
        }
        trace.append(" ports");
        for (int tool = 0; tool < 4; tool++) {
            for (int n = 0; n < 5; n++) {
                trace.append(' ').append(p.x.port(tool, 0, (char) 0, 4));
            }
        }
        trace.append(" steps");
        for (int n = 0; n < 7; n++) {
            trace.append(' ').append(p.x.step(0));
        }
        trace.append(" sources");
        for (int slot = 0; slot < 24; slot++) {
            for (int n = 0; n < 4; n++) {
                trace.append(p.x.link(slot / 4, slot % 4, 1) ? '+' : '-');
            }
        }
        return trace.toString();
    }
}
