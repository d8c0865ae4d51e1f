import java.lang.reflect.Method;
import java.lang.reflect.Modifier;
import java.net.URL;
import java.net.URLClassLoader;
import java.nio.file.Files;
import java.nio.file.Path;
import java.util.ArrayList;
import java.util.List;
import java.util.regex.Matcher;
import java.util.regex.Pattern;
import java.util.stream.Stream;
import javax.tools.JavaCompiler;
import javax.tools.ToolProvider;

/** Each call that README.md shows answers as it says there; argument: the folder of README.md. */
public final class ReadmeTest {
  private static final Checks C = new Checks("ReadmeTest");
  private static final Pattern SHOWN = Pattern.compile("(x\\.(\\w+)\\([^)]*\\));\\s+// (-?\\d+)(: .+)?");

  public static void main(String[] args) throws Exception {
    Path folder = Path.of(args[0]);
    String readme = Files.readString(folder.resolve("README.md"));
    List<Matcher> shown = new ArrayList<>();
    StringBuilder body = new StringBuilder();
    for (String line : codeOf(readme)) body.append(asCode(line, shown)).append('\n');
    everyCallIsShown(shown);
    List<?> answers = run(body.toString());
    C.due("how many calls are shown", answers.size(), shown.size());
    for (int i = 0; i < shown.size() && i < answers.size(); i++) {
      C.due(shown.get(i).group(1), (Integer) answers.get(i), Integer.parseInt(shown.get(i).group(3)));
    }
    everyTestIsNamed(folder, readme);
    C.end();
  }

  /** The lines of all Java examples, in their order: together they are one run. */
  private static List<String> codeOf(String readme) {
    List<String> code = new ArrayList<>();
    Matcher block = Pattern.compile("(?s)```java\n(.*?)```").matcher(readme);
    while (block.find()) code.addAll(block.group(1).lines().toList());
    return code;
  }

  /** A shown call becomes one whose answer is kept; what else stands there is taken as it is. */
  private static String asCode(String line, List<Matcher> shown) {
    if (!line.strip().startsWith("x.")) return line;
    Matcher call = SHOWN.matcher(line.strip());
    boolean told = call.matches();
    C.holds("tells its answer: " + line, told);
    if (!told) return line;
    shown.add(call);
    return "answers.add(" + call.group(1) + ");";
  }

  private static void everyCallIsShown(List<Matcher> shown) {
    for (Method method : RoomsThatChange.class.getDeclaredMethods()) {
      if (!Modifier.isPublic(method.getModifiers())) continue;
      boolean there = shown.stream().anyMatch(call -> call.group(2).equals(method.getName()));
      C.holds(method.getName() + " is shown", there);
    }
  }

  private static List<?> run(String body) throws Exception {
    Path work = Files.createTempDirectory("readme");
    Path source = work.resolve("ReadmeCalls.java");
    try {
      Files.writeString(source, "import java.util.ArrayList;\nimport java.util.List;\n"
          + "public final class ReadmeCalls {\n  public static List<Integer> answers() {\n"
          + "List<Integer> answers = new ArrayList<>();\n" + body + "return answers;\n  }\n}\n");
      JavaCompiler javac = ToolProvider.getSystemJavaCompiler();
      int failed = javac.run(null, null, null, "-cp", System.getProperty("java.class.path"), "-d", work.toString(),
          source.toString());
      C.due("the examples compile", failed, 0);
      if (failed != 0) return List.of();
      try (URLClassLoader loader = new URLClassLoader(new URL[] {work.toUri().toURL()})) {
        return (List<?>) loader.loadClass("ReadmeCalls").getMethod("answers").invoke(null);
      }
    } finally {
      Files.deleteIfExists(work.resolve("ReadmeCalls.class"));
      Files.deleteIfExists(source);
      Files.deleteIfExists(work);
    }
  }

  private static void everyTestIsNamed(Path folder, String readme) throws Exception {
    try (Stream<Path> files = Files.list(folder.resolve("src/test/java"))) {
      for (Path file : files.toList()) {
        String name = file.getFileName().toString();
        if (!name.endsWith("Test.java")) continue;
        C.holds("README.md names " + name, readme.contains("`" + name.replace(".java", "") + "`"));
      }
    }
  }
}
