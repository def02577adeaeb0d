import java.io.IOException;
import java.nio.file.Files;
import java.nio.file.Path;
import java.util.List;
import java.util.regex.Matcher;
import java.util.regex.Pattern;

/** Those rules of LANGUAGE.md that the words of the source show. */
public final class RulesTest {
    private static final Due due = new Due();
    private static final Path SOURCE = Path.of("src/main/java/HomeCalls.java");

    public static void main(String[] args) throws IOException {
        String source = Files.readString(SOURCE);
        String code = source.replaceAll("(?s)/\\*.*?\\*/", "").replaceAll("//.*", "").replaceAll("'(\\\\.|[^'])'", "' '");
        String[] barred = {"package", "throw", "throws", "try", "catch", "finally", "synchronized", "assert", "volatile", "transient",
            "native", "var", "equals", "hashCode", "toString", "instanceof", "Object", "System\\.(?!arraycopy)\\w+", "\\w+Exact",
            "Math\\.(?!min|max|abs|floorMod|floorDiv)\\w+", "Integer\\.(?!bitCount|compare|MAX_VALUE|MIN_VALUE)\\w+",
            "Arrays\\.(?!fill|copyOf|copyOfRange)\\w+", "Character", "Thread", "Random", "yield", "while \\(true\\)", "for \\(;;\\)"};
        for (String word : barred) {
            Matcher found = Pattern.compile("\\b" + word + "\\b").matcher(code.replace("import java.util.Arrays;", ""));
            due.is(word + " in the source", found.find() ? 1 : 0, 0);
        }
        for (String sign : new String[] {"->", "::", "\"", "@"}) {
            due.is(sign + " in the source", code.contains(sign) ? 1 : 0, 0);
        }
        for (String line : source.split("\n")) {
            if (line.startsWith("import")) {
                due.is(line, line.equals("import java.util.Arrays;") ? 1 : 0, 1);
            }
            due.is("a line's length: " + line, line.length() <= 100 ? 1 : 0, 1);
        }
        due.is("signs 1 to 127", source.chars().allMatch(sign -> sign > 0 && sign < 128) ? 1 : 0, 1);
        methods(List.of(source.split("\n")));
        due.end();
    }

    private static void methods(List<String> lines) {
        Pattern head = Pattern.compile("( {4}| {8})((public|private|static|final) )*[\\w\\[\\]]+ \\w+\\(.*\\{");
        int methods = 0;
        for (int i = 0; i < lines.size(); i++) {
            Matcher found = head.matcher(lines.get(i));
            if (found.matches()) {
                int end = i;
                while (!lines.get(end).equals(found.group(1) + "}")) {
                    end++;
                }
                methods++;
                due.is("a method's length: " + lines.get(i), end - i < 60 ? 1 : 0, 1);
            }
        }
        due.is("methods are found", methods > 70 ? 1 : 0, 1);
    }
}
