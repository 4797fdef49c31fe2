import java.io.ByteArrayOutputStream;
import java.io.PrintStream;
import java.lang.reflect.Method;
import java.net.URI;
import java.net.URL;
import java.net.URLClassLoader;
import java.nio.charset.StandardCharsets;
import java.nio.file.Files;
import java.nio.file.Path;
import java.util.ArrayList;
import java.util.Comparator;
import java.util.List;
import java.util.Set;
import java.util.TreeSet;
import java.util.regex.Matcher;
import java.util.regex.Pattern;
import java.util.stream.Stream;
import javax.tools.JavaFileObject;
import javax.tools.SimpleJavaFileObject;
import javax.tools.ToolProvider;

/** README.md's example is compiled and run as it stands: each call that it shows answers what is said beside it. */
public final class MillStreamReadme {
  private static final Path README = Path.of("README.md");

  private MillStreamReadme() { }

  private static final class Source extends SimpleJavaFileObject {
    private final String code;

    Source(String name, String code) {
      super(URI.create("string:///" + name + ".java"), JavaFileObject.Kind.SOURCE);
      this.code = code;
    }

    @Override
    public CharSequence getCharContent(boolean ignoreEncodingErrors) {
      return code;
    }
  }

  private static String group(String pattern, String text) {
    Matcher m = Pattern.compile(pattern).matcher(text);
    return m.find() ? m.group(1) : "";
  }

  /** What is said beside each call that is shown, by the lines. */
  private static List<String> said(String code) {
    List<String> said = new ArrayList<>();
    for (String line : code.split("\n")) {
      if (line.startsWith("    show(")) {
        said.add(line.trim() + " -> " + group(";\\s*// (-?[0-9]+)", line));
      }
    }
    return said;
  }

  private static String[] answers(String code) throws Exception {
    Path out = Files.createTempDirectory("readme");
    PrintStream screen = System.out;
    ByteArrayOutputStream shown = new ByteArrayOutputStream();
    try (URLClassLoader loader = new URLClassLoader(new URL[] {out.toUri().toURL()}, MillStream.class.getClassLoader())) {
      List<String> options = List.of("-d", out.toString(), "-cp", System.getProperty("java.class.path"));
      boolean compiles = ToolProvider.getSystemJavaCompiler()
          .getTask(null, null, null, options, null, List.of(new Source("Example", code))).call();
      if (!compiles) {
        return new String[0];
      }
      Method main = loader.loadClass("Example").getMethod("main", String[].class);
      System.setOut(new PrintStream(shown, true, StandardCharsets.UTF_8));
      main.invoke(null, (Object) new String[0]);
    } finally {
      System.setOut(screen);
      remove(out);
    }
    return shown.toString(StandardCharsets.UTF_8).split("\\R");
  }

  private static void remove(Path folder) throws Exception {
    try (Stream<Path> paths = Files.walk(folder)) {
      for (Path p : paths.sorted(Comparator.reverseOrder()).toList()) {
        Files.delete(p);
      }
    }
  }

  public static void main(String[] args) throws Exception {
    String code = group("(?s)```java\n(.*?)```", Files.readString(README));
    List<String> said = said(code);
    String[] answers = answers(code);
    int wrong = 0;
    for (int i = 0; i < Math.max(said.size(), answers.length); i++) {
      String due = i < said.size() ? said.get(i) : "nothing";
      String got = i < answers.length ? answers[i] : "nothing";
      if (!due.endsWith(" -> " + got)) {
        wrong++;
        System.out.println(due + " is said, the answer is " + got);
      }
    }
    Set<String> unused = new TreeSet<>();
    for (Method m : MillStream.class.getMethods()) {
      if (m.getDeclaringClass() == MillStream.class && !code.contains("stream." + m.getName() + "(")) {
        unused.add(m.getName());
      }
    }
    if (said.isEmpty() || !unused.isEmpty()) {
      wrong++;
      System.out.println("README.md does not show the use of " + unused);
    }
    System.out.println(said.size() + " calls: " + (wrong == 0 ? "all answers are as said" : wrong + " are not as said"));
    System.exit(wrong == 0 ? 0 : 1);
  }
}
