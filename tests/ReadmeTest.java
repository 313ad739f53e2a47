import java.io.IOException;
import java.nio.file.Files;
import java.nio.file.Path;
import java.util.Arrays;
import java.util.regex.Matcher;
import java.util.regex.Pattern;

/** The calls that README.md shows, one behind the other on one object, answer what it says. */
public final class ReadmeTest {
    private static final Pattern CALL = Pattern.compile("board\\.(\\w+)\\(([^)]*)\\); +// (-?\\w+): .+");

    public static void main(String[] args) throws IOException {
        Due due = new Due("ReadmeTest");
        HayBoard board = new HayBoard();
        int shown = 0;
        for (String line : Files.readAllLines(Path.of("README.md"))) {
            Matcher call = CALL.matcher(line);
            if (call.matches()) {
                shown++;
                String row = call.group(2).trim();
                int[] numbers = row.isEmpty() ? new int[0]
                    : Arrays.stream(row.split(" *, *")).mapToInt(Integer::decode).toArray();
                due.is(line, Face.answer(board, call.group(1), numbers), Face.number(call.group(3)));
            } else {
                due.is("a call without what it answers: " + line, line.startsWith("board.") ? 1 : 0, 0);
            }
        }
        due.is("calls are shown", shown > 0 ? 1 : 0, 1);
        due.close();
    }
}
