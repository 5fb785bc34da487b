import com.sun.source.tree.CompilationUnitTree;
import com.sun.source.util.JavacTask;
import com.sun.source.util.Trees;
import java.io.IOException;
import java.nio.file.Files;
import java.nio.file.Path;
import java.util.List;
import javax.tools.JavaCompiler;
import javax.tools.JavaFileObject;
import javax.tools.StandardJavaFileManager;
import javax.tools.ToolProvider;

/**
 * The rules of ../shared/LANGUAGE.md, as far as the compiler's view of the program shows them. Run
 * at the root.
 */
public final class LanguageTest {
  private static final Path PROGRAM = Path.of("src/main/java/DroneLightShow.java");

  private LanguageTest() {}

  public static void main(String[] args) throws IOException {
    JavaCompiler compiler = ToolProvider.getSystemJavaCompiler();
    if (compiler == null) {
      System.out.println("this java has no compiler to read the program with");
      System.exit(1);
    }
    LanguageRules rules = read(compiler);
    for (String breach : rules.breaches) {
      System.out.println("rule " + breach);
    }
    System.out.println(rules.nodes + " parts of the program, " + rules.breaches.size() + " breaches");
    if (rules.nodes == 0 || !rules.breaches.isEmpty()) {
      System.exit(1);
    }
  }

  private static LanguageRules read(JavaCompiler compiler) throws IOException {
    try (StandardJavaFileManager files = compiler.getStandardFileManager(null, null, null)) {
      List<String> options = List.of("-proc:none");
      Iterable<? extends JavaFileObject> program = files.getJavaFileObjects(PROGRAM);
      JavacTask task = (JavacTask) compiler.getTask(null, files, null, options, null, program);
      CompilationUnitTree unit = task.parse().iterator().next();
      task.analyze();
      LanguageRules rules = new LanguageRules(Trees.instance(task), unit);
      rules.checkSigns(Files.readString(PROGRAM));
      rules.scan(unit, null);
      rules.checkCalls();
      return rules;
    }
  }
}
