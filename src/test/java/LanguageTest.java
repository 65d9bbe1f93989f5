import java.nio.file.Files;
import java.nio.file.Path;
import java.util.regex.Matcher;
import java.util.regex.Pattern;

/** The rules of LANGUAGE.md that can be seen in the source by its words. */
public final class LanguageTest {
    private static final String[] RULED_OUT = {
        "\\bthrow\\b", "\\bthrows\\b", "\\btry\\b", "\\bcatch\\b", "\\bfinally\\b", "\\bsynchronized\\b", "\\bassert\\b",
        "->", "::", "\\bpackage\\b", "\\bprotected\\b", "\\bvar\\b", "\\bException\\b", "\\bSystem\\.(?!arraycopy\\b)",
        "\\w+Exact\\b", "\\bThread\\b", "\\bRandom\\b", "\\bhashCode\\b", "\\btoString\\b", "\\bequals\\b", "[^\\x00-\\x7f]"};

    private static final String LIBRARY = "(System\\.arraycopy|Arrays\\.fill|Integer\\.bitCount|Math\\.(max|min))\\(";
    private static final String MADE_ONCE = " *((private )?final \\S+ \\w+|(keeps|tallies|ring)\\[\\w\\]) = new .*;";

    public static void main(String[] args) throws Exception {
        Check check = new Check("LanguageTest");
        String source = Files.readString(Path.of("src/main/java/SlotMesh.java"));
        String code = source.replaceAll("(?s)/\\*.*?\\*/", "").replaceAll("//[^\n]*", "");
        for (String word : RULED_OUT) {
            check.due("has " + word, !Pattern.compile(word).matcher(code).find());
        }
        Matcher imports = Pattern.compile("(?m)^import ([\\w.*]+);").matcher(code);
        while (imports.find()) {
            check.due("import " + imports.group(1), imports.group(1).matches("java\\.util\\.(Arrays|ArrayList|List|Iterator)"));
        }
        Matcher classes = Pattern.compile("\\b(class|enum|interface|record) \\w+").matcher(code);
        int count = 0;
        while (classes.find()) {
            count++;
        }
        check.due("classes at most twelve", count <= 12);
        libraryCalls(check, code);
        longestMethod(check, code);
        check.end();
    }

    /** Rule 4, and rule 12 as the class keeps it: rows are made as fields or by constructors, never by a call. */
    private static void libraryCalls(Check check, String code) {
        Matcher calls = Pattern.compile("\\b([A-Z]\\w*)\\.(\\w+)\\(").matcher(code);
        while (calls.find()) {
            check.due("calls " + calls.group(1) + "." + calls.group(2), calls.group().matches(LIBRARY));
        }
        for (String line : code.split("\n")) {
            if (line.matches(".*\\bnew\\b.*")) {
                check.due("makes an object: " + line.trim(), line.matches(MADE_ONCE));
            }
        }
    }

    private static void longestMethod(Check check, String code) {
        String name = "";
        int lines = 0;
        for (String line : code.split("\n")) {
            lines++;
            if (line.matches("( {4}| {8})\\w[^=;]*\\(.*\\{")) {
                name = line.trim();
                lines = 0;
            } else if (line.matches("( {4}| {8})\\}")) {
                check.due(name + " is short", lines <= 60);
            }
        }
    }
}
