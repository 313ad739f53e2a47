import java.io.IOException;
import java.nio.charset.StandardCharsets;
import java.nio.file.Files;
import java.nio.file.Path;
import java.util.ArrayList;
import java.util.Arrays;
import java.util.HashMap;
import java.util.HashSet;
import java.util.List;
import java.util.Map;
import java.util.Set;
import java.util.regex.Matcher;
import java.util.regex.Pattern;

/**
 * Each sentence of the document that names a boundary case, by a run of calls of its own on a new
 * object: the cases stand in edges.txt, which tells how it is written. Every call is asked of
 * PlainBoard too, and behind every call that is refused all must be as if it had not been.
 */
public final class EdgesTest {
    private static final Path CASES = Path.of("tests/edges.txt");
    private static final int PROMISES = 43;
    private static final int MOST_CALLS = 512;
    private static final Pattern HEAD = Pattern.compile("\\[(\\d+)] (.+)");
    private static final Pattern LET = Pattern.compile("let (\\w+): (.+)");
    private static final Pattern CALL = Pattern.compile(
        "(?:(\\d+)\\* *)?(\\w+)\\((?:\"([^\"]*)\"|([-\\w, ]*))\\)(?: *= *(-?\\w+))? *(?:;|$) *");
    private static final Pattern BYTE = Pattern.compile("\\\\x([0-9a-f]{2})");

    /** A call with what is due, or without, if it only leads up to others. */
    private record Call(String name, int[] numbers, Integer due) {
        String asText() {
            String row = Arrays.toString(numbers);
            return name + "(" + row.substring(1, row.length() - 1) + ")";
        }
    }

    // Rows of calls that have a name, to lead up to others.
    private static final Map<String, EdgesTest> NAMED = new HashMap<>();

    private final Due due;
    private final String sentence;
    private final List<Call> calls = new ArrayList<>();

    private EdgesTest(Due due, String sentence) {
        this.due = due;
        this.sentence = sentence;
    }

    public static void main(String[] args) throws IOException {
        Due due = new Due("EdgesTest");
        Set<Integer> promises = new HashSet<>();
        List<EdgesTest> cases = new ArrayList<>();
        for (String line : Files.readAllLines(CASES, StandardCharsets.US_ASCII)) {
            Matcher head = HEAD.matcher(line);
            if (head.matches()) {
                promises.add(Integer.valueOf(head.group(1)));
                cases.add(new EdgesTest(due, line));
                continue;
            }
            Matcher let = LET.matcher(line);
            if (let.matches()) {
                NAMED.computeIfAbsent(let.group(1), name -> new EdgesTest(due, name)).read(let.group(2));
            } else if (!line.isBlank() && !line.startsWith("#")) {
                cases.get(cases.size() - 1).read(line.trim());
            }
        }
        for (EdgesTest one : cases) {
            one.play();
        }
        for (int promise = 1; promise <= PROMISES; promise++) {
            due.is("promise " + promise + " has edges", promises.contains(promise) ? 1 : 0, 1);
        }
        System.out.println("EdgesTest: " + cases.size() + " sentences");
        due.close();
    }

    // ---- reading a case

    private void read(String line) {
        Matcher m = CALL.matcher(line);
        int at = 0;
        while (at < line.length()) {
            if (!m.find(at) || m.start() != at) {
                throw new IllegalArgumentException(sentence + ": " + line.substring(at));
            }
            int times = m.group(1) == null ? 1 : Integer.parseInt(m.group(1));
            Integer want = m.group(5) == null ? null : Integer.valueOf(Face.number(m.group(5)));
            for (int i = 0; i < times; i++) {
                add(m.group(2), m.group(3), m.group(4), want);
            }
            at = m.end();
        }
    }

    private void add(String name, String text, String numbers, Integer want) {
        if (NAMED.containsKey(name)) {
            calls.addAll(NAMED.get(name).calls);
            return;
        }
        if (text == null) {
            String row = numbers.trim();
            int[] a = row.isEmpty() ? new int[0] : Arrays.stream(row.split(" *, *")).mapToInt(Face::number).toArray();
            calls.add(new Call(name, a, want));
            return;
        }
        byte[] bytes = BYTE.matcher(text).replaceAll(r -> Matcher.quoteReplacement(
            String.valueOf((char) Integer.parseInt(r.group(1), 16)))).getBytes(StandardCharsets.ISO_8859_1);
        calls.add(new Call("trim", new int[] {0}, 0));
        for (int i = 0; i < bytes.length; i += 12) {
            int[] a = {Due.four(bytes, i), Due.four(bytes, i + 4), Due.four(bytes, i + 8)};
            calls.add(new Call("feed", a, i + 12));
        }
        calls.add(new Call("trim", new int[] {bytes.length}, bytes.length));
        if (name.equals("says")) {
            calls.add(new Call("text", new int[0], want));
        } else if (!name.equals("tape")) {
            throw new IllegalArgumentException(sentence + ": " + name);
        }
    }

    // ---- playing it

    private void play() {
        HayBoard board = new HayBoard();
        PlainBoard plain = new PlainBoard();
        due.is(sentence + ": its calls are too many", calls.size() > MOST_CALLS ? calls.size() : 0, 0);
        for (int i = 0; i < calls.size(); i++) {
            Call call = calls.get(i);
            String told = sentence + ": call " + (i + 1) + ", " + call.asText();
            int got = Face.answer(board, call.name, call.numbers);
            int likewise = plain.ask(call.name, call.numbers);
            due.is(told, got, call.due == null ? likewise : call.due);
            due.is(told + " (of the plain one)", likewise, got);
            if (Face.isRefusal(call.name, got)) {
                changesNothing(told, i);
            }
        }
    }

    /** One object is asked the call that is refused, another one is not: then they must be alike. */
    private void changesNothing(String told, int refused) {
        for (int part = 0; part < Everything.PARTS; part++) {
            HayBoard asked = behind(refused);
            Face.answer(asked, calls.get(refused).name, calls.get(refused).numbers);
            HayBoard other = behind(refused);
            usesUpLikewise(calls.get(refused).name, other);
            List<Integer> got = Everything.of(asked, part);
            List<Integer> want = Everything.of(other, part);
            due.is(told + " changes nothing (part " + part + ")", firstOtherwise(got, want), -1);
        }
    }

    private HayBoard behind(int n) {
        HayBoard board = new HayBoard();
        for (Call call : calls.subList(0, n)) {
            Face.answer(board, call.name, call.numbers);
        }
        return board;
    }

    /** What the document tells to be used up by a call that is refused. */
    private static void usesUpLikewise(String name, HayBoard board) {
        if (name.equals("text")) {
            board.trim(0);
        } else if (name.equals("check")) {
            board.check(0);
        }
    }

    private static int firstOtherwise(List<Integer> some, List<Integer> others) {
        for (int i = 0; i < Math.max(some.size(), others.size()); i++) {
            if (i >= some.size() || i >= others.size() || !some.get(i).equals(others.get(i))) {
                return i;
            }
        }
        return -1;
    }
}
