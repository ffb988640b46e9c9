import java.lang.reflect.Method;
import java.lang.reflect.Modifier;
import java.nio.file.Files;
import java.nio.file.Path;
import java.util.ArrayList;
import java.util.List;
import java.util.regex.Matcher;
import java.util.regex.Pattern;

/** What README.md says is so: its calls with their answers, its text of a drill, and that it names every call. */
public final class ReadmeTest {
    private static final Pattern ANSWERED = Pattern.compile("^(x\\.(\\w+)\\(([^)]*)\\)|read\\(x, \"([^\"]*)\"\\)); +// (-?\\d+|true|false)\\b.*");
    private static final Pattern BLOCK = Pattern.compile("```java\n(.*?)```", Pattern.DOTALL);

    private ReadmeTest() {
    }

    public static void main(String[] args) throws Exception {
        String page = Files.readString(Path.of("README.md"));
        List<String> blocks = new ArrayList<>();
        Matcher block = BLOCK.matcher(page);
        while (block.find()) {
            blocks.add(block.group(1));
        }
        Calls.due("blocks of Java", blocks.size(), 2);
        if (blocks.size() == 2) {
            helperStandsHere(blocks.get(0));
            example(blocks.get(1));
        }
        textOfADrill(page);
        everyCallIsNamed(page);
        Calls.due("the command is told", page.contains("\n    bash .ci/run\n"), true);
        Calls.close("ReadmeTest");
    }

    /** The page's way to read a text, word by word: it is compared with the page below. */
    static int read(MirrorDrill x, String text) {
        x.end(0);
        int[] five = new int[5];
        for (int from = 0; from < text.length(); from += 20) {
            for (int i = 0; i < 20; i++) {
                int sign = from + i < text.length() ? text.charAt(from + i) : ' ';
                five[i / 4] = five[i / 4] << 8 | sign;
            }
            x.feed(five[0], five[1], five[2], five[3], five[4]);
        }
        x.end(text.length());
        return x.drill();
    }

    private static void helperStandsHere(String helper) throws Exception {
        String here = Files.readString(Path.of("src/test/java/ReadmeTest.java"));
        StringBuilder shifted = new StringBuilder();
        helper.lines().forEach(line -> shifted.append("    ").append(line).append('\n'));
        Calls.due("the page's way to read a text is the one that is tried here", here.contains(shifted), true);
        MirrorDrill x = new MirrorDrill();
        Calls.due("an empty text", read(x, ""), 0);
        String full = "moves 2;men 30;" + "\n".repeat(1585);
        Calls.due("a text of 1,600 signs", read(x, full), 30);
    }

    private static void example(String lines) {
        MirrorDrill x = new MirrorDrill();
        for (String line : lines.split("\n")) {
            Matcher call = ANSWERED.matcher(line);
            if (call.matches()) {
                long got = call.group(4) != null ? read(x, call.group(4)) : Calls.call(x, call.group(2), numbers(call.group(3)));
                String told = call.group(5);
                long want = told.equals("true") ? 1 : told.equals("false") ? 0 : Long.parseLong(told);
                Calls.due(line, got, want);
            } else {
                Calls.due("a line without an answer: " + line, line.equals("MirrorDrill x = new MirrorDrill();"), true);
            }
        }
    }

    private static int[] numbers(String told) {
        if (told.isEmpty()) {
            return new int[0];
        }
        String[] parts = told.split(", ");
        int[] numbers = new int[parts.length];
        for (int i = 0; i < parts.length; i++) {
            numbers[i] = Integer.parseInt(parts[i]);
        }
        return numbers;
    }

    /** The lines under "The text", without what is said about them. */
    private static void textOfADrill(String page) {
        StringBuilder text = new StringBuilder();
        boolean under = false;
        for (String line : page.split("\n")) {
            under = line.startsWith("#") ? line.equals("### The text") : under;
            if (under && line.startsWith("    ")) {
                text.append(line.strip().split(" {3}")[0]).append('\n');
            }
        }
        MirrorDrill x = new MirrorDrill();
        Calls.due("men of the page's text " + text, read(x, text.toString()), 4);
        Calls.due("its moves", x.about(1), 3);
        Calls.due("its rules", x.about(2), 2);
        Calls.due("its ring", x.about(10), 1);
        Calls.due("its worth", x.worth(), 17);
        Calls.due("what man 3 does", x.does(3), 2);
    }

    private static void everyCallIsNamed(String page) {
        int named = 0;
        for (Method method : MirrorDrill.class.getDeclaredMethods()) {
            if (Modifier.isPublic(method.getModifiers())) {
                int ahead = page.indexOf("\n### The calls\n");
                boolean told = page.indexOf("`" + method.getName() + "(", Math.max(0, ahead)) >= 0;
                Calls.due("the table has " + method.getName(), told && ahead >= 0, true);
                named++;
            }
        }
        Calls.due("calls", named, 30);
    }
}
