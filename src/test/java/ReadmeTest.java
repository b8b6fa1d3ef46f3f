import java.io.IOException;
import java.lang.reflect.Method;
import java.lang.reflect.Modifier;
import java.nio.file.Files;
import java.nio.file.Path;
import java.util.List;
import java.util.Set;
import java.util.TreeSet;
import java.util.regex.Matcher;
import java.util.regex.Pattern;
import java.util.stream.Stream;

/** README.md tells of every public method, and its example answers what it says there. */
public final class ReadmeTest {
  private static final Pattern CALL = Pattern.compile("docs\\.(\\w+)\\(([-\\d, ]*)\\);\\s+// (?:(-?\\d+): )?.+");
  private static final Pattern ROW_OF_TABLE = Pattern.compile("\\| `(\\w+)\\(([\\w, ]*)\\)` \\|.*");
  private static int wrong = 0;

  private static void fault(String words) {
    wrong++;
    System.out.println("README.md: " + words);
  }

  private static Method methodNamed(String name) {
    for (Method m : NearDocs.class.getDeclaredMethods()) {
      if (m.getName().equals(name) && Modifier.isPublic(m.getModifiers())) {
        return m;
      }
    }
    return null;
  }

  private static Object[] numbersIn(String arguments) {
    return Stream.of(arguments.split(",")).map(String::trim).filter(word -> !word.isEmpty())
        .map(Integer::valueOf).toArray();
  }

  private static Set<String> publicMethods() {
    Set<String> names = new TreeSet<>();
    for (Method m : NearDocs.class.getDeclaredMethods()) {
      if (Modifier.isPublic(m.getModifiers())) {
        names.add(m.getName());
      }
    }
    return names;
  }

  /** A method without an answer has no number behind it. */
  private static void example(List<String> lines) throws ReflectiveOperationException {
    NearDocs docs = new NearDocs();
    Set<String> called = new TreeSet<>();
    for (String line : lines) {
      if (!line.startsWith("docs.")) {
        continue;
      }
      Matcher call = CALL.matcher(line);
      Method method = call.matches() ? methodNamed(call.group(1)) : null;
      if (method == null) {
        fault("\"" + line + "\" is not a call of the class with its answer");
        continue;
      }
      called.add(method.getName());
      Object got = method.invoke(docs, numbersIn(call.group(2)));
      Object told = call.group(3) == null ? null : Integer.valueOf(call.group(3));
      if (got == null ? told != null : !got.equals(told)) {
        fault("\"" + line + "\", but the class answers " + got);
      }
    }
    if (!called.equals(publicMethods())) {
      fault("the example calls " + called + ", the class has " + publicMethods());
    }
  }

  private static void table(List<String> lines) {
    Set<String> told = new TreeSet<>();
    for (String line : lines) {
      Matcher row = ROW_OF_TABLE.matcher(line);
      if (row.matches()) {
        told.add(row.group(1));
        Method method = methodNamed(row.group(1));
        int parameters = row.group(2).isEmpty() ? 0 : row.group(2).split(",").length;
        if (method != null && method.getParameterCount() != parameters) {
          fault("\"" + line + "\", but the method takes " + method.getParameterCount() + " numbers");
        }
      }
    }
    if (!told.equals(publicMethods())) {
      fault("the table has " + told + ", the class has " + publicMethods());
    }
  }

  public static void main(String[] args) throws IOException, ReflectiveOperationException {
    List<String> lines = Files.readAllLines(Path.of("README.md"));
    example(lines);
    table(lines);
    System.out.println(wrong == 0 ? "README.md is as due" : wrong + " lines of README.md are not as due");
    if (wrong != 0) {
      System.exit(1);
    }
  }
}
