import java.io.IOException;
import java.nio.file.Files;
import java.nio.file.Path;
import java.util.ArrayList;
import java.util.List;

/** The examples of README.md stand here too, line for line, and do what they say there. */
public final class ReadmeTest {
    public static void main(String[] args) throws IOException {
        eachElement();
        twoSteps();
        everyLineStandsHere();
        Expect.end();
    }

    static void write(StepRunner x, String draft) {
        for (int i = 0; i < draft.length(); i++) {
            x.write(draft.charAt(i));
        }
    }

    static String output(StepRunner x, int step) {
        StringBuilder form = new StringBuilder();
        for (int i = 0; x.output(step, i) != -1; i++) {
            form.append((char) x.output(step, i));
        }
        return form.toString();
    }

    private static void eachElement() {
        StepRunner x = new StepRunner();
        int echo = x.tool(0);
        int port = x.port(echo, 0, 'n', 0);
        int step = x.step(echo);
        x.link(step, port, 0);
        x.scatter(step, 1 << port, 0);
        write(x, "[1,2]");
        x.input(0);

        x.start(2);
        Expect.equal("running() with two workers", x.running(), 2);
        x.finish(1);
        x.finish(0);
        Expect.equal("status() when both jobs have ended", x.status(), 2);
        String forms = output(x, step);
        Expect.equal("a job for each element", forms, "[\"-n 1\",\"-n 2\"]");
    }

    private static void twoSteps() {
        StepRunner x = new StepRunner();
        int sum = x.tool(2);
        int numbers = x.port(sum, 0, (char) 0, 2);
        int parts = x.step(sum);
        x.link(parts, numbers, 0);
        x.scatter(parts, 1 << numbers, 0);
        write(x, "$(inputs.a.length)");
        x.when(parts);
        int total = x.step(sum);
        x.link(total, numbers, 10 + parts);
        x.gather(total, numbers, 0, 3);
        write(x, "[[1,2],[],[40]]");
        x.input(0);

        x.start(3);
        Expect.equal("status() while the run goes on", x.status(), 1);
        while (x.status() == 1) {
            x.finish(0);
        }
        Expect.equal("status() when all jobs have ended", x.status(), 2);
        String inner = output(x, parts);
        Expect.equal("the skipped job gives NULL", inner, "[3,null,40]");
        String outer = output(x, total);
        Expect.equal("the second step picks it out", outer, "43");
    }

    /** So that an example cannot be changed in README.md alone. */
    private static void everyLineStandsHere() throws IOException {
        List<String> mine = new ArrayList<>();
        for (String line : Files.readAllLines(Path.of("src/test/java/ReadmeTest.java"))) {
            mine.add(line.trim());
        }
        boolean isCode = false;
        int seen = 0;
        for (String line : Files.readAllLines(Path.of("README.md"))) {
            if (line.startsWith("```")) {
                isCode = line.equals("```java");
            } else if (isCode) {
                int comment = line.indexOf(" //");
                String code = (comment < 0 ? line : line.substring(0, comment)).trim();
                Expect.yes("README.md's line stands in ReadmeTest: " + code, mine.contains(code));
                seen++;
            }
        }
        Expect.yes("README.md has examples", seen > 30);
    }
}
