import java.io.IOException;
import java.lang.reflect.Constructor;
import java.lang.reflect.Field;
import java.lang.reflect.Method;
import java.lang.reflect.Modifier;
import java.nio.file.Files;
import java.nio.file.Path;
import java.util.ArrayList;
import java.util.List;
import java.util.Set;
import java.util.TreeSet;
import java.util.regex.Matcher;
import java.util.regex.Pattern;

/** The class's face, and those rules of LANGUAGE.md that a test can see. */
public final class FaceTest {
  private static final Set<String> FACE = new TreeSet<>(List.of("put", "compile", "pass", "touch", "swap",
      "restore", "size", "item", "code", "feed", "dry", "run", "out", "count"));
  // As the document writes them, each with its types and the exceptions that it declares.
  private static final Set<String> WHOLE_FACE = new TreeSet<>(List.of(
      "boolean put(int, int)",
      "int compile() throws IllegalArgumentException, IllegalStateException",
      "int pass(int) throws IllegalArgumentException",
      "boolean touch(int, int, int, int) throws IllegalArgumentException",
      "boolean swap(int, int) throws IllegalArgumentException",
      "void restore()",
      "int size(int, int)",
      "int item(int, int, int) throws NoSuchElementException",
      "int code(int, int) throws NoSuchElementException",
      "boolean feed(int)",
      "void dry()",
      "int run(int) throws IllegalArgumentException",
      "int out(int) throws NoSuchElementException",
      "int count(int)"));

  public static void main(String[] args) throws IOException {
    face();
    classesInside();
    words();
    lengthOfMethods();
    Check.end();
  }

  private static void face() {
    Set<String> found = new TreeSet<>();
    for (Method method : PassChain.class.getDeclaredMethods()) {
      if (Modifier.isPublic(method.getModifiers())) {
        found.add(told(method));
      } else {
        Check.due(method.getName() + " is private", Check.of(Modifier.isPrivate(method.getModifiers())), 1);
      }
    }
    Check.due("public methods", String.join("\n  ", found), String.join("\n  ", WHOLE_FACE));
    for (Field field : PassChain.class.getDeclaredFields()) {
      Check.due(field.getName() + " is private", Check.of(Modifier.isPrivate(field.getModifiers())), 1);
    }
    Constructor<?>[] constructors = PassChain.class.getDeclaredConstructors();
    Check.due("constructors", constructors.length, 1);
    Check.due("it is public", Check.of(Modifier.isPublic(constructors[0].getModifiers())), 1);
    Check.due("it takes nothing", constructors[0].getParameterCount(), 0);
    Check.due("the class is public", Check.of(Modifier.isPublic(PassChain.class.getModifiers())), 1);
    Check.due("the class is final", Check.of(Modifier.isFinal(PassChain.class.getModifiers())), 1);
  }

  private static String told(Method method) {
    String exceptions = namesOf(method.getExceptionTypes());
    String head = method.getReturnType().getSimpleName() + " " + method.getName();
    return head + "(" + namesOf(method.getParameterTypes()) + ")" + (exceptions.isEmpty() ? "" : " throws " + exceptions);
  }

  private static String namesOf(Class<?>[] types) {
    List<String> names = new ArrayList<>();
    for (Class<?> type : types) {
      names.add(type.getSimpleName());
    }
    return String.join(", ", names);
  }

  private static void classesInside() {
    Class<?>[] inside = PassChain.class.getDeclaredClasses();
    Check.due("at most twelve classes", Check.of(inside.length + 1 <= 12), 1);
    for (Class<?> one : inside) {
      Check.due(one + " is static", Check.of(Modifier.isStatic(one.getModifiers())), 1);
      int fields = 0;
      for (Field field : one.getDeclaredFields()) {
        boolean isStatic = Modifier.isStatic(field.getModifiers());
        fields += isStatic ? 0 : 1;
        Check.due(field + " is not changed", Check.of(!isStatic || Modifier.isFinal(field.getModifiers())), 1);
      }
      Check.due(one + " has at most twenty fields", Check.of(fields <= 20), 1);
      for (Method method : one.getDeclaredMethods()) {
        Check.due(method + " bears a name of its own", Check.of(FACE.contains(method.getName())), 0);
        Check.due(method + " takes at most seven", Check.of(method.getParameterCount() <= 7), 1);
      }
    }
  }

  private static String source() throws IOException {
    return Files.readString(Path.of("src/main/java/PassChain.java"));
  }

  private static void words() throws IOException {
    String source = source();
    String[] ruledOut = {"->", "::", "Exact", "finally", "synchronized", "assert", "catch", "try {", "interface ",
      "System.out", "Random", "Thread", "import java.io", "while (true)", "getMessage", "package ", " static {"};
    for (String word : ruledOut) {
      Check.due("it does without " + word, source.indexOf(word), -1);
    }
    Matcher imports = Pattern.compile("import ([\\w.]+);").matcher(source);
    Set<String> imported = new TreeSet<>();
    while (imports.find()) {
      imported.add(imports.group(1));
    }
    Check.due("imports", imported.toString(), "[java.util.Arrays, java.util.NoSuchElementException]");
  }

  private static void lengthOfMethods() throws IOException {
    String[] lines = source().split("\n");
    int begin = -1;
    for (int i = 0; i < lines.length; i++) {
      boolean begins = lines[i].matches("^(  |    )(public |private |static |final )*[\\w\\[\\]]+ ?\\w*\\(.*\\{$");
      if (begins) {
        begin = i;
      }
      if (begin >= 0 && lines[i].equals(lines[begin].replaceAll("\\S.*", "") + "}")) {
        Check.due("lines of " + lines[begin].trim(), Check.of(i - begin < 60), 1);
        begin = -1;
      }
    }
  }
}
