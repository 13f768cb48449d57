import java.io.IOException;
import java.nio.file.Files;
import java.nio.file.Path;
import java.util.List;
import java.util.regex.Matcher;
import java.util.regex.Pattern;

/** What can be told of the rules of ../shared/LANGUAGE.md by looking at the text of the class. */
public final class LanguageTest {
    private static final Path CLASS = Path.of("src/main/java/MindReaders.java");
    private static final List<String> FORBIDDEN = List.of(
        "\\bthrows?\\b", "\\btry\\b", "\\bcatch\\b", "\\bfinally\\b", "\\bsynchronized\\b", "\\bassert\\b", "\\bvolatile\\b",
        "\\bnative\\b", "\\btransient\\b", "\\bprotected\\b", "\\bimport\\b", "\\bpackage\\b", "->", "::", "\\bstatic\\s*\\{",
        "\\bfloat\\b", "\\bdouble\\b", "\\bObject\\b", "\\bvar\\b", "\\bequals\\b", "\\bhashCode\\b", "\\btoString\\b",
        "\\b\\w+Exact\\b", "\\bSystem\\b", "\\bThread\\b", "\\bRandom\\b", "\\brandom\\b", "\\bObjects\\b", "@\\w+", "\\bgetClass\\b",
        "\"", "\\bextends\\b", "\\bimplements\\b");
    private static final Pattern METHOD = Pattern.compile("^( {4}| {8})(?! )(?:[\\w\\[\\]<>]+ )*\\w+\\(([^)]*)\\) \\{$");

    public static void main(String[] args) throws IOException {
        String text = Files.readString(CLASS);
        Check.holds("signs are 1 to 127", text.chars().allMatch(c -> c >= 1 && c <= 127));
        String bare = bare(text);
        for (String word : FORBIDDEN) {
            Matcher found = Pattern.compile(word).matcher(bare);
            Check.holds("nothing like " + word, !found.find());
        }
        Check.holds("Math and Integer alone, and of them what stands", library(bare));
        methods(bare.split("\n", -1));
        Check.end("LanguageTest");
    }

    /** The text without comments and signs in quotes, its lines kept. */
    private static String bare(String text) {
        Matcher comments = Pattern.compile("/\\*.*?\\*/|//[^\n]*|'[^'\n]*'", Pattern.DOTALL).matcher(text);
        return comments.replaceAll(m -> m.group().replaceAll("[^\n]", " "));
    }

    private static boolean library(String bare) {
        Matcher call = Pattern.compile("\\b([A-Z][a-z]\\w*)\\.(\\w+)").matcher(bare);
        List<String> known = List.of("Math.max", "Math.min", "Integer.bitCount");
        boolean held = true;
        while (call.find()) {
            if (!known.contains(call.group())) {
                System.out.println("not known: " + call.group());
                held = false;
            }
        }
        return held;
    }

    private static void methods(String[] lines) {
        int found = 0;
        for (int i = 0; i < lines.length; i++) {
            Matcher head = METHOD.matcher(lines[i]);
            if (!head.find()) {
                continue;
            }
            found++;
            int end = i;
            while (!lines[end].equals(head.group(1) + "}")) {
                end++;
            }
            Check.holds("at most 60 lines: " + lines[i].trim(), end - i < 60);
            Check.holds("at most seven parameters: " + lines[i].trim(), head.group(2).split(",").length <= 7);
        }
        Check.holds("methods are found", found > 90);
    }
}
