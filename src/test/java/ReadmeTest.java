import java.io.IOException;
import java.net.URI;
import java.net.URISyntaxException;
import java.nio.file.Files;
import java.nio.file.Path;
import java.util.ArrayList;
import java.util.List;
import java.util.concurrent.Callable;
import java.util.regex.Matcher;
import java.util.regex.Pattern;
import javax.tools.JavaCompiler;
import javax.tools.JavaFileObject;
import javax.tools.SimpleJavaFileObject;
import javax.tools.ToolProvider;

/**
 * The examples of README.md give the answers that stand behind their calls, and its tables list the
 * calls of the document in its groups, with its exceptions. Run at the root.
 */
public final class ReadmeTest {
  private static final Path README = Path.of("README.md");
  private static final Path DOCUMENT = Path.of("../shared/DOC.md");
  private static final String GROUP = "(?m)^Ahead of the calls (.*) the interface says: ---- (.*)[.]$";

  /** A line of an example that names an answer: the call, and behind // the answer and some words. */
  private static final Pattern ANSWERED =
      Pattern.compile("\\s*(.+);\\s*// (throws \\w+|'.'|[^:]+)(: .*)?");

  private static int examples = 0;
  private static int checks = 0;
  private static int wrong = 0;

  public static void main(String[] args) throws Exception {
    String readme = Files.readString(README);
    String document = Files.readString(DOCUMENT);
    runExamples(readme);
    compare("the calls", listedCalls(readme), documentCalls(document));
    compare("the groups", listedGroups(readme), documentGroups(document));
    System.out.println(examples + " examples, " + checks + " checks, " + wrong + " wrong");
    if (wrong != 0) {
      System.exit(1);
    }
  }

  private static void complain(String what) {
    wrong++;
    System.out.println("README.md: " + what);
  }

  // ---- the examples

  /** Makes the examples a class of their own, each a method, and runs it. */
  private static void runExamples(String readme) throws Exception {
    StringBuilder program = new StringBuilder("final class ReadmeExamples {\n");
    program.append("static void all() {\n");
    for (String example : matches("(?s)```java\n(.*?)```", readme)) {
      program.append("{\n").append(checkedLines(example)).append("}\n");
      examples++;
    }
    program.append("}\n}\n");
    if (examples == 0) {
      complain("it has no example");
    } else if (compiles(program.toString())) {
      Class<?> made = Class.forName("ReadmeExamples");
      made.getDeclaredMethod("all").invoke(null);
    } else {
      complain("the examples do not compile");
    }
  }

  private static String checkedLines(String example) {
    StringBuilder result = new StringBuilder();
    int answered = 0;
    for (String line : example.split("\n")) {
      Matcher matcher = ANSWERED.matcher(line);
      if (matcher.matches()) {
        String call = matcher.group(1);
        String quoted = "\"" + call.replace("\\", "\\\\").replace("\"", "\\\"") + "\"";
        String due = matcher.group(2).replaceFirst("throws (\\w+)", "\"throws $1\"");
        result.append("ReadmeTest.check(" + quoted + ", " + due + ", () -> " + call + ");\n");
        answered++;
      } else if (line.contains("//")) {
        complain("the answer can't be read in: " + line);
      } else {
        result.append(line).append('\n');
      }
    }
    if (answered == 0) {
      complain("an example names no answer: " + example);
    }
    return result.toString();
  }

  /** Called by the examples: the answer, of its very type, or "throws " and the exception, is due. */
  static void check(String call, Object due, Callable<Object> example) {
    Object got;
    try {
      got = example.call();
    } catch (Exception e) {
      got = "throws " + e.getClass().getSimpleName();
    }
    checks++;
    if (!due.equals(got)) {
      complain(call + " answered " + got + ", named is " + due);
    }
  }

  private static boolean compiles(String program) throws URISyntaxException {
    JavaCompiler compiler = ToolProvider.getSystemJavaCompiler();
    if (compiler == null) {
      complain("this java has no compiler for the examples");
      return false;
    }
    // Beside this class, the examples are found like it.
    URI here = ReadmeTest.class.getProtectionDomain().getCodeSource().getLocation().toURI();
    String folder = Path.of(here).toString();
    List<String> options = List.of("-d", folder, "-cp", folder, "-implicit:none");
    List<JavaFileObject> files = List.of(new Text("ReadmeExamples", program));
    return compiler.getTask(null, null, null, options, null, files).call();
  }

  /** A program that stands in no file. */
  private static final class Text extends SimpleJavaFileObject {
    private final String content;

    Text(String name, String content) {
      super(URI.create("string:///" + name + ".java"), Kind.SOURCE);
      this.content = content;
    }

    @Override
    public CharSequence getCharContent(boolean ignoreEncodingErrors) {
      return content;
    }
  }

  // ---- the tables

  /** The rows of the tables: a call's declaration, and its exceptions in their order. */
  private static List<String> listedCalls(String readme) {
    List<String> result = new ArrayList<>();
    Matcher row = Pattern.compile("(?m)^\\| `(\\w+ \\w+\\(.*?\\))` \\|.*\\|(.*)\\|$").matcher(readme);
    while (row.find()) {
      result.add(row.group(1) + " " + matches("`(\\w+)`: [^;`]+", row.group(2)));
    }
    return result;
  }

  private static List<String> documentCalls(String document) {
    List<String> result = new ArrayList<>();
    Matcher call = Pattern.compile("    public (\\w+ \\w+\\(.*?\\))(?: throws (.*))?;").matcher(document);
    while (call.find()) {
      String exceptions = call.group(2) == null ? "" : call.group(2);
      result.add(call.group(1) + " " + matches("(\\w+)", exceptions));
    }
    return result;
  }

  /** The headings that a table follows, each with the names of the table's calls. */
  private static List<String> listedGroups(String readme) {
    List<String> result = new ArrayList<>();
    Matcher group = Pattern.compile("(?m)^### (.*)\n\n((\\|.*\n)+)").matcher(readme);
    while (group.find()) {
      String heading = group.group(1).toLowerCase();
      result.add(heading + " " + matches("(?m)^\\| `\\w+ (\\w+)\\(", group.group(2)));
    }
    return result;
  }

  private static List<String> documentGroups(String document) {
    List<String> result = new ArrayList<>();
    Matcher group = Pattern.compile(GROUP).matcher(document);
    while (group.find()) {
      result.add(group.group(2) + " " + matches("`(\\w+)`", group.group(1)));
    }
    return result;
  }

  private static void compare(String what, List<String> listed, List<String> due) {
    for (int k = 0; k < Math.max(listed.size(), due.size()); k++) {
      String one = k < listed.size() ? listed.get(k) : "nothing";
      String other = k < due.size() ? due.get(k) : "nothing";
      checks++;
      if (!one.equals(other)) {
        complain("of " + what + ", it lists " + one + ", the document " + other);
      }
    }
    if (due.isEmpty()) {
      complain("the document lists nothing of " + what);
    }
  }

  /** What the first group of the pattern matches, place by place. */
  private static List<String> matches(String pattern, String text) {
    List<String> result = new ArrayList<>();
    Matcher matcher = Pattern.compile(pattern).matcher(text);
    while (matcher.find()) {
      result.add(matcher.group(1));
    }
    return result;
  }
}
