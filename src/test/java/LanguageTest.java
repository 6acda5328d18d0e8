import java.io.IOException;
import java.nio.file.Files;
import java.nio.file.Path;
import java.util.List;
import java.util.regex.Matcher;
import java.util.regex.Pattern;

/** What can be seen of ../shared/LANGUAGE.md in the text of the program. */
public final class LanguageTest {
    private static final Due due = new Due();

    public static void main(String[] args) throws IOException {
        due.about("the language");
        String text = Files.readString(Path.of("src/main/java/SofaStair.java"));
        for (char sign : text.toCharArray()) {
            if (sign > 126) due.is("a sign of the text", sign, 0);
        }
        String code = text.replaceAll("(?s)/\\*.*?\\*/", "").replaceAll("//[^\n]*", "").replaceAll("\"[^\"\n]*\"", "\"\"");
        String[] never = {"throw", "throws", "try", "catch", "finally", "synchronized", "assert", "instanceof", "equals",
            "hashCode", "toString", "package", "protected", "volatile", "native", "System", "Object", "Thread", "Random",
            "Scanner", "Iterator", "HashMap", "var", "yield", "->", "::", "@", "Exact", "goto", "Integer", "Long"};
        for (String word : never) {
            String pattern = Character.isLetter(word.charAt(0)) ? "\\b" + word + "\\b" : Pattern.quote(word);
            due.is(word, count(code, pattern), 0);
        }
        due.is("imports", count(code, "\\bimport\\b"), 1);
        due.is("import of Arrays", count(code, "\\bimport java\\.util\\.Arrays;"), 1);
        due.is("other functions of Arrays", count(code, "\\bArrays\\.(?!fill\\b)\\w"), 0);
        due.is("other functions of Math", count(code, "\\bMath\\.(?!(?:min|max|abs)\\b)\\w"), 0);
        due.is("loops without a bound", count(code, "while \\(true\\)|for \\(;;\\)"), 0);
        due.is("texts joined by +", count(code, "\"\" *\\+|\\+ *\"\""), 0);
        newInMethods(code);
        methodLengths(List.of(code.split("\n")));
        due.end();
    }

    private static int count(String text, String pattern) {
        Matcher m = Pattern.compile(pattern).matcher(text);
        int n = 0;
        while (m.find()) n++;
        return n;
    }

    /** Objects are made with the object and never by a call, so that a run stays in its room. */
    private static void newInMethods(String code) {
        int made = count(code, "\\bnew\\b");
        int inFields = count(code, "(?m)^ +private final [^;(]*= new [^;]*;$");
        int inConstructors = count(code, "(?m)^ +(?:images|things)\\[\\w+\\] = new \\w+\\(\\);$");
        due.is("objects that calls make", made - inFields - inConstructors, 0);
    }

    private static void methodLengths(List<String> lines) {
        for (int i = 0; i < lines.size(); i++) {
            Matcher m = Pattern.compile("^( ++)(?!&&|.*\\b(?:class|new|return|if|for|while|switch|else)\\b).*\\(.*\\) \\{$")
                    .matcher(lines.get(i));
            if (!m.matches()) continue;
            int end = lines.subList(i, lines.size()).indexOf(m.group(1) + "}");
            due.holds("short: " + lines.get(i).trim(), end > 0 && end <= 60);
        }
    }
}
