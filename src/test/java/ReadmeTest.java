import java.io.IOException;
import java.nio.file.Files;
import java.nio.file.Path;
import java.util.ArrayList;
import java.util.List;
import java.util.regex.Matcher;
import java.util.regex.Pattern;

/** The example of README.md: each answer that it names is the one that the class gives. */
public final class ReadmeTest {
    private static final Pattern ANSWERED = Pattern.compile("islands\\.(.*); +// (-?[0-9]+)[:,].*");
    private static final List<String> LINES = new ArrayList<>();

    public static void main(String[] args) throws IOException {
        for (String line : Files.readAllLines(Path.of("README.md"))) {
            if (ANSWERED.matcher(line).matches()) {
                LINES.add(line);
            }
        }
        TideFares islands = new TideFares();
        says("ferry(0, 1, 10, 30, 20, 5)", islands.ferry(0, 1, 10, 30, 20, 5));
        says("kind(0, 1)", islands.kind(0, 1));
        says("soonest(0, 1, 0)", islands.soonest(0, 1, 0));
        says("cheapest(0, 1, 0, 1539)", islands.cheapest(0, 1, 0, 1539));
        says("lastStart(0, 1, 100)", islands.lastStart(0, 1, 100));
        says("refusal(0, 0)", islands.refusal(0, 0));
        says("take(0, 0)", islands.take(0, 0));
        says("traveller(0, 2)", islands.traveller(0, 2));
        says("undo()", islands.undo());
        says("traveller(0, 2)", islands.traveller(0, 2));
        Checks.type(islands, "ab@10/30+20$5;bc@0/45+10$8^");
        says("firstError()", islands.firstError());
        says("ferries()", islands.ferries());
        says("reach(0)", islands.reach(0));
        says("soonest(2, 0, 0)", islands.soonest(2, 0, 0));
        Checks.holds("README.md says more: " + LINES, LINES.isEmpty());
        Checks.end("ReadmeTest");
    }

    /** The next line of the example makes this call, and names this answer. */
    private static void says(String call, int answer) {
        String line = LINES.isEmpty() ? "" : LINES.remove(0);
        Matcher answered = ANSWERED.matcher(line);
        boolean isCall = answered.matches() && answered.group(1).equals(call);
        Checks.holds("README.md has no line of " + call + ", but: " + line, isCall);
        if (isCall) {
            Checks.due("README.md: " + call, Integer.parseInt(answered.group(2)), answer);
        }
    }
}
