import java.nio.file.Files;
import java.nio.file.Path;
import java.util.regex.Matcher;
import java.util.regex.Pattern;

/** What of ../shared/LANGUAGE.md can be seen from the words and lines of the file alone. */
public final class LanguageTest {
    private static final Check check = new Check("LanguageTest");

    public static void main(String[] args) throws Exception {
        String file = Files.readString(Path.of("src/main/java/PaperRows.java"));
        String code = file.replaceAll("(?s)/\\*.*?\\*/", "").replaceAll("//[^\n]*", "").replaceAll("\"[^\"\n]*\"", "\"\"");
        none("rule 6", code, "\\b(throw|throws|try|catch|finally|synchronized|assert)\\b");
        none("rule 2", code, "->|::|\\bnew\\s+\\w+\\s*\\([^()]*\\)\\s*\\{");
        none("rule 4", code, "\\b(import|package|System|Object|Exception|Random|Thread|Class)\\b|Exact\\b");
        none("rule 5", code, "\\bstatic\\s*\\{|\\bstatic\\s+(?!final\\b|boolean\\s+\\w+\\()\\w+\\s+\\w+\\s*[=;]");
        none("rule 6: equals, hashCode, toString", code, "\\b(equals|hashCode|toString)\\s*\\(");
        none("rule 9: a loop without an end", code, "while\\s*\\(\\s*true\\s*\\)|for\\s*\\(\\s*;\\s*;");
        none("rule 10: texts joined by +", code, "\"\\s*\\+|\\+\\s*\"");
        none("a tab or a sign beyond 126", file, "[^\\x20-\\x7e\n]");
        faceAlone(code);
        fewClasses(code);
        shortMethods(code);
        check.close();
    }

    private static void none(String rule, String code, String pattern) {
        Matcher m = Pattern.compile(pattern).matcher(code);
        int found = 0;
        while (m.find()) {
            found++;
            System.out.println(rule + " is broken by: " + m.group());
        }
        check.due(rule, found, 0);
    }

    private static void faceAlone(String code) throws Exception {
        int open = 0;
        for (java.lang.reflect.Method m : PaperRows.class.getDeclaredMethods()) {
            if (!java.lang.reflect.Modifier.isPrivate(m.getModifiers()) && !m.isSynthetic()) {
                open++;
            }
        }
        for (java.lang.reflect.Field f : PaperRows.class.getDeclaredFields()) {
            if (!java.lang.reflect.Modifier.isPrivate(f.getModifiers()) && !f.isSynthetic()) {
                open++;
            }
        }
        check.due("rule 1: methods and constants that are not private", open, 22);
        check.due("rule 1: constructors", PaperRows.class.getDeclaredConstructors().length, 1);
        check.due("rule 1: final and public", PaperRows.class.getModifiers(), 17);
        for (java.lang.reflect.Method m : PaperRows.class.getDeclaredMethods()) {
            for (Class<?> inside : PaperRows.class.getDeclaredClasses()) {
                for (java.lang.reflect.Method other : inside.getDeclaredMethods()) {
                    boolean isFace = java.lang.reflect.Modifier.isPublic(m.getModifiers());
                    check.due("rule 1: " + inside + " has " + m.getName(), isFace && other.getName().equals(m.getName()) ? 1 : 0, 0);
                }
            }
        }
    }

    private static void fewClasses(String code) {
        Matcher m = Pattern.compile("\\b(class|record|enum|interface)\\s+\\w+").matcher(code);
        int classes = 0;
        while (m.find()) {
            classes++;
        }
        check.due("rule 11: at most twelve classes", classes <= 12 ? 1 : 0, 1);
    }

    private static void shortMethods(String code) {
        int lines = 0;
        int longest = 0;
        for (String line : code.split("\n")) {
            lines = line.matches("    (    )?\\S.*\\)\\s*\\{") ? 0 : lines + 1;
            if (line.matches("    (    )?\\}")) {
                longest = Math.max(longest, lines);
            }
        }
        check.due("rule 11: methods of some sixty lines", longest <= 60 ? 1 : 0, 1);
    }
}
