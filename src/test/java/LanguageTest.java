import java.nio.file.Files;
import java.nio.file.Path;
import java.util.ArrayList;
import java.util.List;
import java.util.Set;
import java.util.TreeSet;
import java.util.regex.Matcher;
import java.util.regex.Pattern;

/** The rules of LANGUAGE.md that can be seen in the text of the program. */
public final class LanguageTest {
    private static final Pattern METHOD = Pattern.compile(
        "^( {4}| {8})(public |private )?(static )?(?:[\\w\\[\\]]+ )([a-z]\\w*)\\(([^)]*)\\) \\{$", Pattern.MULTILINE);
    private static final List<String> PUBLIC = List.of("feed", "end", "drill", "fault", "does", "made", "run", "order", "undo",
        "redo", "worth", "round", "before", "orphan", "one", "keeps", "spread", "glint", "cracks", "lies", "sight", "untell",
        "later", "unsure", "fits", "sure", "wrong", "image", "back", "about");

    private LanguageTest() {
    }

    public static void main(String[] args) throws Exception {
        String source = Files.readString(Path.of("src/main/java/MirrorDrill.java"));
        String code = source.replaceAll("(?s)/\\*.*?\\*/", "").replaceAll("//[^\n]*", "")
            .replaceAll("\"(\\\\.|[^\"\\\\])*\"", "\"\"").replaceAll("'(\\\\.|[^'\\\\])'", "' '");
        for (String word : new String[] {"throw", "throws", "try", "catch", "finally", "synchronized", "assert", "var",
            "hashCode", "equals", "Object", "Exception", "volatile", "protected", "double", "float", "Random", "System\\.out"}) {
            Calls.due("no " + word, Pattern.compile("\\b" + word + "\\b").matcher(code).find(), false);
        }
        Calls.due("no lambda", code.contains("->"), false);
        Calls.due("no method reference", code.contains("::"), false);
        Calls.due("no name ends in Exact", code.contains("Exact("), false);
        Calls.due("no sign beyond 127", source.chars().allMatch(c -> c < 128), true);
        imports(code);
        methods(code);
        classes(code);
        Calls.close("LanguageTest");
    }

    private static void imports(String code) {
        Matcher m = Pattern.compile("^import (.*);$", Pattern.MULTILINE).matcher(code);
        while (m.find()) {
            Calls.due("import " + m.group(1), m.group(1).equals("java.util.Arrays"), true);
        }
        Set<String> used = new TreeSet<>();
        Matcher call = Pattern.compile("\\b(Arrays|Math|Integer|Long|System)\\.(\\w+)").matcher(code);
        while (call.find()) {
            used.add(call.group(1) + "." + call.group(2));
        }
        used.removeAll(Set.of("Arrays.fill", "Arrays.copyOf", "Math.min", "Math.max", "Math.abs", "Math.floorMod",
            "Integer.bitCount", "Long.bitCount", "System.arraycopy"));
        Calls.due("other calls of the library: " + used, used.size(), 0);
    }

    private static void methods(String code) {
        List<String> open = new ArrayList<>();
        Matcher m = METHOD.matcher(code);
        while (m.find()) {
            String name = m.group(4);
            boolean isPublic = "public ".equals(m.group(2));
            if (isPublic) {
                open.add(name);
            }
            Calls.due("method " + name + " is public or bears another name", isPublic || !PUBLIC.contains(name), true);
            Calls.due("parameters of " + name, m.group(5).split(",").length <= 7, true);
            int end = code.indexOf("\n" + m.group(1) + "}", m.start());
            long lines = code.substring(m.start(), end).lines().count();
            Calls.due("method " + name + " is short", lines <= 60, true);
        }
        Calls.due("the public face: " + open, open.equals(PUBLIC), true);
    }

    private static void classes(String code) {
        Matcher m = Pattern.compile("\\b(class|record|enum|interface) \\w+").matcher(code);
        int count = 0;
        while (m.find()) {
            count++;
        }
        Calls.due("at most twelve classes", count <= 12, true);
        Matcher statics = Pattern.compile("^\\s*(private )?static (?!final)[^(]*;", Pattern.MULTILINE).matcher(code);
        Calls.due("static fields are final", statics.find(), false);
        Matcher inner = Pattern.compile("^ {4,}(private )?final class", Pattern.MULTILINE).matcher(code);
        Calls.due("classes inside are static", inner.find(), false);
    }
}
