import java.io.IOException;
import java.nio.charset.StandardCharsets;
import java.nio.file.Files;
import java.nio.file.Paths;
import java.util.ArrayList;
import java.util.List;
import java.util.regex.Matcher;
import java.util.regex.Pattern;

/** The lines under "Use" in README.md answer what they tell there. Runs in the folder of the project, as .ci/run does. */
public final class ReadmeTests {
    private static final Pattern LINE = Pattern.compile("studio\\.(\\w+\\(.*\\)); *// -> (-?\\d+):.*");

    /** The calls of the README with their answers, one a line. */
    private static String told(String readme) {
        List<String> all = new ArrayList<>();
        for (String line : readme.split("\n")) {
            Matcher m = LINE.matcher(line);
            if (m.matches()) {
                all.add(m.group(1) + " -> " + m.group(2));
            }
        }
        return String.join("\n", all);
    }

    private static String answered() {
        SplicedLoops studio = new SplicedLoops();
        return String.join("\n",
            "reel(20) -> " + studio.reel(20),
            "paint(0, 3, 6, 4) -> " + studio.paint(0, 3, 6, 4),
            "loop() -> " + studio.loop(),
            "splice(0, 0, 0, 8) -> " + studio.splice(0, 0, 0, 8),
            "splice(0, 0, 4, 8) -> " + studio.splice(0, 0, 4, 8),
            "speed(0, 2, 3) -> " + studio.speed(0, 2, 3),
            "ticks(5) -> " + studio.ticks(5),
            "soundIn(1000000) -> " + studio.soundIn(1000000),
            "meet(0, 0, 1) -> " + studio.meet(0, 0, 1),
            "loudest(100, 1) -> " + studio.loudest(100, 1),
            "runScript(1, 1000001) -> " + studio.runScript(1, 1000001),
            "save(0) -> " + studio.save(0),
            "undo() -> " + studio.undo(),
            "restore(0) -> " + studio.restore(0),
            "about(7) -> " + studio.about(7));
    }

    private static void text(String readme) {
        Matcher m = Pattern.compile("`(Z[a-z0-9]+)` is the studio above").matcher(readme);
        Due.due("the README tells a text", m.find(), true);
        SplicedLoops typed = new SplicedLoops();
        Due.write(typed, m.group(1));
        Due.due("errorPosition() of the text", typed.errorPosition(), SplicedLoops.NONE);
        Due.due("load() of the text", typed.load(), 0);
        SplicedLoops done = new SplicedLoops();
        done.reel(20);
        done.paint(0, 3, 6, 4);
        done.loop();
        done.splice(0, 0, 0, 8);
        done.speed(0, 2, 3);
        done.ticks(5);
        Due.due("the studio of the text", Due.stateOf(typed), Due.stateOf(done));
    }

    public static void main(String[] args) throws IOException {
        String readme = new String(Files.readAllBytes(Paths.get("README.md")), StandardCharsets.UTF_8);
        Due.test("README: the lines under Use", () -> Due.due("the calls", told(readme), answered()));
        Due.test("README: the text of the studio", () -> text(readme));
        Due.close("ReadmeTests");
    }
}
