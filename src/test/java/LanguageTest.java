import java.io.IOException;
import java.nio.file.Files;
import java.nio.file.Path;
import java.util.ArrayList;
import java.util.List;
import java.util.regex.Matcher;
import java.util.regex.Pattern;

/** Rules of ../shared/LANGUAGE.md that can be seen in the text of the class; run from the project's folder. */
final class LanguageTest {
    private static final Check CHECK = new Check("LanguageTest");
    private static final Path SOURCE = Path.of("src/main/java/EscrowCounter.java");
    private static final String[] NEVER = {
        "import", "package", "synchronized", "assert", "finally", "try", "catch", "goto", "native", "volatile",
        "protected", "double", "float", "System.out", "System.in", "Exact", "getMessage", "hashCode", "toString"
    };

    public static void main(String[] args) throws IOException {
        String source = Files.readString(SOURCE);
        String code = withoutCommentsAndTexts(source);
        for (String word : NEVER) {
            boolean stands = Pattern.compile("\\b" + Pattern.quote(word) + "\\b").matcher(code).find();
            CHECK.note(!stands, "'" + word + "' stands in the class");
        }
        CHECK.note(!code.contains("->") && !code.contains("::"), "a lambda or a method reference");
        CHECK.note(source.chars().allMatch(c -> c == '\n' || c >= 32 && c <= 126), "a sign outside 32 to 126");
        CHECK.note(!Pattern.compile("static\\s*\\{").matcher(code).find(), "a static initialiser block");
        libraryCalls(code);
        objectsOnlyInConstructors(code);
        shortMethods(code);
        CHECK.end();
    }

    private static String withoutCommentsAndTexts(String source) {
        return source.replaceAll("(?s)/\\*.*?\\*/", "").replaceAll("//[^\n]*", "").replaceAll("\"[^\"]*\"", "\"\"");
    }

    private static void libraryCalls(String code) {
        Matcher m = Pattern.compile("\\b(Math|System|Arrays|Integer|Long|String)\\.(\\w+)").matcher(code);
        while (m.find()) {
            String call = m.group();
            CHECK.note(List.of("Math.max", "Math.min", "System.arraycopy").contains(call), call + " is called");
        }
    }

    /** A 'new' stands in a field, in a constructor, or behind 'throw'. */
    private static void objectsOnlyInConstructors(String code) {
        for (String method : methods(code)) {
            boolean isConstructor = method.matches("(?s)\\s*(public )?[A-Z]\\w*\\(.*");
            boolean makes = Pattern.compile("(?<!throw )\\bnew\\b").matcher(method).find();
            CHECK.note(isConstructor || !makes, "an object is made in " + head(method));
            CHECK.note(!isConstructor || !method.contains("throw "), "a throw in the constructor " + head(method));
        }
    }

    private static void shortMethods(String code) {
        List<String> methods = methods(code);
        CHECK.note(methods.size() > 31, "the methods were not found");
        for (String method : methods) {
            CHECK.note(method.lines().count() <= 60, "too long: " + head(method));
            String arguments = method.substring(method.indexOf('(') + 1, method.indexOf(')'));
            CHECK.note(arguments.split(",").length <= 7, "too many parameters: " + head(method));
        }
    }

    /** From the line of each method's name to the brace that closes it, found by its indentation. */
    private static List<String> methods(String code) {
        List<String> methods = new ArrayList<>();
        Matcher m = Pattern.compile("(?ms)^( {4}| {8})(?:(?:public|private|static|final) )*(?:(?:int|long|boolean|void"
                + "|[A-Z]\\w*) )?\\w+\\([^;{]*?\\{\\n.*?^\\1\\}").matcher(code);
        while (m.find()) {
            methods.add(m.group());
        }
        return methods;
    }

    private static String head(String method) {
        return method.strip().lines().findFirst().orElse("");
    }
}
