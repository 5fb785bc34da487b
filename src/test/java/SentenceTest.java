import java.io.IOException;
import java.nio.file.Files;
import java.nio.file.Path;
import java.util.ArrayList;
import java.util.HashSet;
import java.util.List;
import java.util.Set;
import java.util.TreeMap;
import java.util.regex.Matcher;
import java.util.regex.Pattern;

/**
 * A test for each sentence of the document: at the boundary that it names, on either side of it,
 * and, after a refused call, of what stays. The sentences are read from the document, so that one
 * that no test names, or a test that names a sentence that is not there, comes to light. Run at
 * the root.
 */
public final class SentenceTest {
  private static final Path DOCUMENT = Path.of("../shared/DOC.md");
  private static final Path PROGRAM = Path.of("src/main/java/DroneLightShow.java");
  private static final String ABOUT = "A simulator of a drone light show on a grid";
  private static final String ORDER = "Ahead of the calls ";

  private static int wrong = 0;

  private static void complain(String what) {
    wrong++;
    System.out.println(what);
  }

  public static void main(String[] args) throws IOException {
    DroneSentences.all();
    FormationSentences.all();
    TickSentences.all();
    CueSentences.all();
    CommandSentences.all();
    LineSentences.all();
    ChangeSentences.all();
    TreeMap<Integer, List<String>> document = sentences(Files.readString(DOCUMENT));
    checkNames(document);
    checkOrder(document.get(0), Files.readString(PROGRAM));
    System.out.println(Sheet.summary() + ", " + wrong + " sentences amiss");
    if (wrong + Sheet.wrong() != 0) {
      System.exit(1);
    }
  }

  /** The sentences of each promise, and those ahead of the promises at 0. */
  private static TreeMap<Integer, List<String>> sentences(String text) {
    TreeMap<Integer, List<String>> result = new TreeMap<>();
    String[] sections = text.replaceAll("(?s)```java.*?```", "").split("\n(?=## )");
    for (String section : sections) {
      Matcher promise = Pattern.compile("## Promise (\\d+):.*").matcher(section.split("\n")[0]);
      if (!section.startsWith("## Not promised")) {
        int number = promise.matches() ? Integer.parseInt(promise.group(1)) : 0;
        result.computeIfAbsent(number, k -> new ArrayList<>()).addAll(sentencesOf(section));
      }
    }
    return result;
  }

  private static List<String> sentencesOf(String section) {
    List<String> result = new ArrayList<>();
    for (String line : section.split("\n")) {
      String words = line.strip().replaceFirst("^- ", "").replaceFirst("^`[^`]*\\([^`]*`: ", "");
      if (!words.isEmpty() && !words.startsWith("#") && !words.startsWith("```")) {
        for (String sentence : words.split("(?<=[.])\\s+(?=[A-Z])")) {
          // A single word, or a step's number, is the heading of what follows it.
          if (!sentence.matches("[A-Z][a-z]+( [0-9])?[.]")) {
            result.add(sentence);
          }
        }
      }
    }
    return result;
  }

  private static void checkNames(TreeMap<Integer, List<String>> document) {
    Set<String> terms = new HashSet<>(document.get(0));
    Set<String> named = new HashSet<>();
    for (Sheet.Named test : Sheet.NAMED) {
      List<String> own = document.getOrDefault(test.promise(), List.of());
      if (!own.contains(test.words()) && !terms.contains(test.words())) {
        complain("promise " + test.promise() + " has no sentence \"" + test.words() + "\"");
      }
      named.add(test.promise() + test.words());
      named.add(0 + test.words());
    }
    for (int promise : document.keySet()) {
      for (String sentence : document.get(promise)) {
        boolean ofCalls = !sentence.startsWith(ABOUT) && !sentence.startsWith(ORDER);
        if (ofCalls && !named.contains(promise + sentence)) {
          complain("no test names the sentence of promise " + promise + " \"" + sentence + "\"");
        }
      }
    }
    if (document.size() != 53) {
      complain("the document has " + (document.size() - 1) + " promises");
    }
  }

  /** Ahead of the calls .. the interface says: the comments of the program, and what follows them. */
  private static void checkOrder(List<String> terms, String program) {
    int lines = 0;
    for (String sentence : terms) {
      if (sentence.startsWith(ORDER)) {
        lines++;
        String comment = "// " + sentence.replaceFirst(".*says: ", "").replaceFirst("[.]$", "") + "\n";
        int start = program.indexOf(comment);
        int end = program.indexOf("// ----", start + 1);
        Matcher call = Pattern.compile("`(\\w+)`").matcher(sentence);
        while (call.find()) {
          Matcher place = Pattern.compile("\n  public \\w+ " + call.group(1) + "\\(").matcher(program);
          if (start < 0 || !place.find() || place.start() < start || place.start() > end) {
            complain(call.group(1) + " does not follow \"" + comment.strip() + "\"");
          }
        }
      }
    }
    if (lines != 7) {
      complain(lines + " lines tell of the order of the interface");
    }
  }
}
