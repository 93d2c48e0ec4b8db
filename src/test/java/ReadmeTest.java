import java.io.File;
import java.io.IOException;
import java.net.URI;
import java.nio.file.Files;
import java.nio.file.Path;
import java.util.List;
import java.util.regex.Matcher;
import java.util.regex.Pattern;
import javax.tools.JavaCompiler;
import javax.tools.JavaFileObject;
import javax.tools.SimpleJavaFileObject;
import javax.tools.ToolProvider;

/** README's program answers as it says there, and README tells the whole face of the document. */
public final class ReadmeTest extends Checks {
  private static final Path README = Path.of("README.md");
  private static final Path DOC = Path.of("../shared/DOC.md");
  private static final Pattern SHOWN =
      Pattern.compile("(?m)^ +(town\\.\\w+\\(.*\\)); +// (-?\\d+)(?::.*)?$");

  private static int shown = 0;

  /** README's program calls this for each answer that it shows. */
  public static void show(String call, long got, long want) {
    shown++;
    due(call, got, want);
  }

  private static final class Source extends SimpleJavaFileObject {
    private final String text;

    Source(String name, String text) {
      super(URI.create("string:///" + name + ".java"), Kind.SOURCE);
      this.text = text;
    }

    @Override
    public CharSequence getCharContent(boolean ignoreEncodingErrors) {
      return text;
    }
  }

  private static String block(Path file) throws IOException {
    String text = Files.readString(file);
    String opening = "```java\n";
    int from = text.indexOf(opening) + opening.length();
    return text.substring(from, text.indexOf("```", from));
  }

  private static int matches(String pattern, String text) {
    return (int) Pattern.compile(pattern).matcher(text).results().count();
  }

  private static boolean compiles(String program) {
    String path = System.getProperty("java.class.path");
    String out = path.split(File.pathSeparator)[0];
    JavaCompiler compiler = ToolProvider.getSystemJavaCompiler();
    List<JavaFileObject> sources = List.of(new Source("Example", program));
    return compiler.getTask(
        null, null, null, List.of("-cp", path, "-d", out, "-proc:none"), null, sources).call();
  }

  private static void program() throws IOException, ReflectiveOperationException {
    of("README's program");
    String program = block(README);
    due("it can be compiled", compiles(program) ? 1 : 0, 1);
    String asked = SHOWN.matcher(program).replaceAll("ReadmeTest.show(\"$1\", $1, $2L);");
    if (!compiles(asked)) {
      due("it can be compiled with its answers asked", 0, 1);
      return;
    }
    Class.forName("Example").getMethod("main", String[].class)
        .invoke(null, (Object) new String[0]);
    due("answers that are shown", shown, matches("; +// ", program));
  }

  private static void face() throws IOException {
    String readme = Files.readString(README);
    Matcher m = Pattern.compile("public ((?:int |long )?\\w+\\([^)]*\\));").matcher(block(DOC));
    int methods = 0;
    while (m.find()) {
      of("README");
      due(m.group(1) + " is told", readme.contains("`" + m.group(1) + "`") ? 1 : 0, 1);
      methods++;
    }
    due("the face was found", methods, matches("\\);", block(DOC)));
    due("the constant is told", readme.contains("`NONE` (-1)") ? 1 : 0, 1);
    due("how to run the tests", readme.contains("bash .ci/run") ? 1 : 0, 1);
  }

  /** README names no call that the document does not have. */
  private static void noMore() throws IOException {
    of("README");
    String face = block(DOC);
    Matcher m = Pattern.compile("\\| `([^`]*)` \\|").matcher(Files.readString(README));
    while (m.find()) {
      due(m.group(1) + " is the document's",
          face.contains("public " + m.group(1) + ";") ? 1 : 0, 1);
    }
  }

  public static void main(String[] args) throws IOException, ReflectiveOperationException {
    program();
    face();
    noMore();
    close("README tells the class as it is");
  }
}
