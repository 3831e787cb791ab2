import java.io.ByteArrayOutputStream;
import java.io.IOException;
import java.io.PrintStream;
import java.lang.reflect.Method;
import java.lang.reflect.Modifier;
import java.net.URL;
import java.net.URLClassLoader;
import java.nio.file.Files;
import java.nio.file.Path;
import java.util.ArrayList;
import java.util.Comparator;
import java.util.List;
import java.util.regex.Matcher;
import java.util.regex.Pattern;
import java.util.stream.Stream;
import javax.tools.ToolProvider;

/** What README.md says: its example is compiled and run, and each line prints what stands behind it. */
public final class ReadmeTest {
  private static final Pattern EXAMPLE = Pattern.compile("```java\n(.*?)```", Pattern.DOTALL);
  private static final Pattern PRINTS = Pattern.compile("^\\s*System\\.out\\.println\\((.*)\\);\\s*(?://\\s*([^:]*).*)?$");

  public static void main(String[] args) throws IOException, ReflectiveOperationException {
    String readme = Files.readString(Path.of("README.md"));
    Matcher example = EXAMPLE.matcher(readme);
    boolean isThere = example.find();
    Check.due("README.md has an example", Check.of(isThere), 1);
    if (isThere) {
      answers(example.group(1));
      everyCall(example.group(1));
    }
    everyTest(readme);
    Check.due("README.md says how the tests are run", Check.of(readme.contains("```sh\n.ci/run\n```")), 1);
    Check.end();
  }

  private static void answers(String example) throws IOException, ReflectiveOperationException {
    List<String> printed = run(example).lines().toList();
    int asked = 0;
    for (String line : example.split("\n")) {
      Matcher prints = PRINTS.matcher(line);
      if (prints.matches()) {
        String want = prints.group(2) == null ? "no answer stands there" : prints.group(2).trim();
        String got = asked < printed.size() ? printed.get(asked) : "nothing";
        Check.due("README.md, " + prints.group(1), got, want);
        asked++;
      }
    }
    Check.due("lines that the example prints", printed.size(), asked);
    Check.due("the example asks for something", Check.of(asked > 0), 1);
  }

  private static String run(String example) throws IOException, ReflectiveOperationException {
    Path folder = Files.createTempDirectory("readme");
    try {
      Path source = folder.resolve("Example.java");
      Files.writeString(source, "public final class Example {\n  public static void main(String[] args) {\n" + example + "  }\n}\n");
      int failed = ToolProvider.getSystemJavaCompiler().run(null, null, null, "-cp",
          System.getProperty("java.class.path"), "-d", folder.toString(), source.toString());
      Check.due("the example compiles", failed, 0);
      return failed == 0 ? outputOf(folder) : "";
    } finally {
      remove(folder);
    }
  }

  private static String outputOf(Path folder) throws IOException, ReflectiveOperationException {
    PrintStream screen = System.out;
    ByteArrayOutputStream printed = new ByteArrayOutputStream();
    try (URLClassLoader loader = new URLClassLoader(new URL[] {folder.toUri().toURL()})) {
      System.setOut(new PrintStream(printed, true));
      loader.loadClass("Example").getMethod("main", String[].class).invoke(null, (Object) new String[0]);
    } finally {
      System.setOut(screen);
    }
    return printed.toString();
  }

  private static void remove(Path folder) throws IOException {
    try (Stream<Path> files = Files.walk(folder)) {
      for (Path file : new ArrayList<>(files.sorted(Comparator.reverseOrder()).toList())) {
        Files.delete(file);
      }
    }
  }

  private static void everyCall(String example) {
    for (Method method : PassChain.class.getDeclaredMethods()) {
      if (Modifier.isPublic(method.getModifiers())) {
        boolean isUsed = example.contains("chain." + method.getName() + "(");
        Check.due("the example uses " + method.getName(), Check.of(isUsed), 1);
      }
    }
  }

  private static void everyTest(String readme) throws IOException {
    try (Stream<Path> files = Files.list(Path.of("src/test/java"))) {
      for (Path file : files.sorted().toList()) {
        String name = file.getFileName().toString().replace(".java", "");
        if (name.endsWith("Test")) {
          Check.due("README.md tells of " + name, Check.of(readme.contains("`" + name + "`")), 1);
        }
      }
    }
  }
}
