import java.io.IOException;
import java.nio.file.Files;
import java.nio.file.Path;
import java.util.List;
import java.util.regex.Matcher;
import java.util.regex.Pattern;

/** The rules of ../shared/LANGUAGE.md that the text of the program can show. Run at the root. */
public final class LanguageTest {
  private static final Path SOURCE = Path.of("src/main/java/DroneLightShow.java");
  private static final int LONGEST_METHOD = 60;
  private static final int MOST_CLASSES = 12;

  /** What must not stand in the code, each with the rule that keeps it out. */
  private static final String[][] BANNED = {
    {"2, no lambda", "->"},
    {"2, no method reference", "::"},
    {"4, the library", "\\b(Float|Double|Character|Object|System|Objects|Collections|Optional)\\."},
    {"4, no *Exact", "Exact\\s*\\("},
    {"5, no static initialiser", "static\\s*\\{"},
    {"6, no such words", "\\b(catch|try|finally|assert|synchronized|instanceof)\\b"},
    {"6, no such methods", "\\b(equals|hashCode|toString|getMessage)\\s*\\("},
    {"6, written texts alone", "throw (?!new \\w+\\(\"\"\\);)"},
    {"10, texts are not joined by +", "\"\\s*\\+|\\+\\s*\""},
    {"13, no clock, chance or world", "\\b(Random|Thread|File|currentTimeMillis|nanoTime)\\b"},
  };

  private static int wrong = 0;

  private static void complain(String what) {
    wrong++;
    System.out.println("rule " + what);
  }

  public static void main(String[] args) throws IOException {
    String source = Files.readString(SOURCE);
    String code =
        source
            .replaceAll("(?s)/\\*.*?\\*/", "")
            .replaceAll("//[^\n]*", "")
            .replaceAll("\"[^\"\n]*\"", "\"\"");
    for (int k = 0; k < source.length(); k++) {
      if (source.charAt(k) > 126) {
        complain("4: a sign that is not of 1 to 127");
      }
    }
    for (String[] banned : BANNED) {
      Matcher matcher = Pattern.compile(banned[1]).matcher(code);
      while (matcher.find()) {
        complain(banned[0] + ": " + matcher.group());
      }
    }
    checkImports(code);
    checkLengths(List.of(source.split("\n")));
    long classes = Pattern.compile("\\b(class|enum|interface|record) \\w+").matcher(code).results().count();
    if (classes > MOST_CLASSES) {
      complain("11: " + classes + " classes");
    }
    System.out.println(wrong == 0 ? "the language is kept" : wrong + " breaches");
    if (wrong != 0) {
      System.exit(1);
    }
  }

  private static void checkImports(String code) {
    Matcher matcher = Pattern.compile("import ([\\w.*]+);").matcher(code);
    while (matcher.find()) {
      if (!matcher.group(1).equals("java.util.NoSuchElementException")) {
        complain("4: import of " + matcher.group(1));
      }
    }
  }

  private static void checkLengths(List<String> lines) {
    Pattern header = Pattern.compile("( {2}| {4})[\\w\\[\\]][\\w\\[\\] ]*\\(.*");
    for (int start = 0; start < lines.size(); start++) {
      Matcher matcher = header.matcher(lines.get(start));
      if (matcher.matches() && !lines.get(start).endsWith(";")) {
        int end = start;
        while (end < lines.size() && !lines.get(end).equals(matcher.group(1) + "}")) {
          end++;
        }
        if (end - start >= LONGEST_METHOD) {
          complain("11: a long method: " + lines.get(start).trim());
        }
      }
    }
  }
}
