import java.lang.reflect.Constructor;
import java.lang.reflect.Field;
import java.lang.reflect.Method;
import java.lang.reflect.Modifier;
import java.nio.charset.StandardCharsets;
import java.nio.file.Files;
import java.nio.file.Path;
import java.util.Set;
import java.util.TreeSet;
import java.util.regex.Matcher;
import java.util.regex.Pattern;

/** The public face as the document tells it, and the rules of LANGUAGE.md that can be read off the text. */
public final class FaceTest {
  private static final Checks C = new Checks("FaceTest");

  public static void main(String[] args) throws Exception {
    Path shared = Path.of(args[1]);
    face(Files.readString(shared.resolve("DOC.md")));
    nothingElse();
    nested();
    text(Files.readString(Path.of(args[0]), StandardCharsets.ISO_8859_1));
    C.end();
  }

  private static void face(String document) {
    String block = document.substring(document.indexOf("```java"), document.indexOf("## Terms"));
    Set<String> due = new TreeSet<>();
    Matcher m = Pattern.compile("public int (\\w+)\\(([^)]*)\\);").matcher(block);
    while (m.find()) due.add(m.group(1) + "/" + (m.group(2).isEmpty() ? 0 : m.group(2).split(",").length));
    Set<String> got = new TreeSet<>();
    for (Method method : RoomsThatChange.class.getDeclaredMethods()) {
      if (!Modifier.isPublic(method.getModifiers())) continue;
      boolean ints = method.getReturnType() == int.class;
      for (Class<?> type : method.getParameterTypes()) ints &= type == int.class;
      if (ints && !Modifier.isStatic(method.getModifiers())) got.add(method.getName() + "/" + method.getParameterCount());
    }
    C.due("methods of the face", got.size(), 30);
    C.holds("the face is " + due + ", not " + got, got.equals(due));
  }

  private static void nothingElse() {
    Class<?> c = RoomsThatChange.class;
    C.holds("public and final", Modifier.isPublic(c.getModifiers()) && Modifier.isFinal(c.getModifiers()));
    C.due("one constructor", c.getDeclaredConstructors().length, 1);
    Constructor<?> made = c.getDeclaredConstructors()[0];
    C.holds("public, of nothing", Modifier.isPublic(made.getModifiers()) && made.getParameterCount() == 0);
    Set<String> open = openNames();
    for (Method m : c.getDeclaredMethods()) {
      if (Modifier.isPublic(m.getModifiers())) continue;
      C.holds(m.getName() + " is private", Modifier.isPrivate(m.getModifiers()));
      C.holds(m.getName() + " has a name of its own", !open.contains(m.getName()));
    }
    for (Field f : c.getDeclaredFields()) {
      C.holds(f.getName() + " is private", Modifier.isPrivate(f.getModifiers()));
      if (Modifier.isStatic(f.getModifiers())) C.holds(f.getName() + " is final", Modifier.isFinal(f.getModifiers()));
    }
  }

  private static Set<String> openNames() {
    Set<String> open = new TreeSet<>();
    for (Method m : RoomsThatChange.class.getDeclaredMethods()) {
      if (Modifier.isPublic(m.getModifiers())) open.add(m.getName());
    }
    return open;
  }

  private static void nested() {
    Class<?>[] inside = RoomsThatChange.class.getDeclaredClasses();
    C.holds("at most twelve classes", inside.length <= 11);
    for (Class<?> c : inside) {
      C.holds(c.getName() + " is static", Modifier.isStatic(c.getModifiers()));
      C.holds(c.getName() + " is not open", !Modifier.isPublic(c.getModifiers()) && !Modifier.isProtected(c.getModifiers()));
      int fields = 0;
      for (Field f : c.getDeclaredFields()) {
        if (!Modifier.isStatic(f.getModifiers())) fields++;
        else C.holds(f.getName() + " is final", Modifier.isFinal(f.getModifiers()));
      }
      C.holds(c.getName() + " has some twenty fields at most", fields <= 20);
      for (Method m : c.getDeclaredMethods()) {
        C.holds(m.getName() + " has at most seven parameters", m.getParameterCount() <= 7);
        C.holds(m.getName() + " has a name of its own", !openNames().contains(m.getName()));
      }
    }
  }

  private static void text(String source) {
    for (int i = 0; i < source.length(); i++) {
      if (source.charAt(i) > 126) C.holds("the text has plain signs alone, not " + (int) source.charAt(i), false);
    }
    String code = source.replaceAll("(?s)/\\*.*?\\*/", "").replaceAll("//[^\n]*", "");
    for (String word : new String[] {"throw", "throws", "try", "catch", "finally", "synchronized", "assert", "package", "var"}) {
      C.holds("no " + word, !Pattern.compile("\\b" + word + "\\b").matcher(code).find());
    }
    C.holds("no lambda", !code.contains("->"));
    C.holds("no method reference", !code.contains("::"));
    C.holds("no Exact", !Pattern.compile("Exact\\b").matcher(code).find());
    Matcher methods = Pattern.compile("(?ms)^( {2,4})(?:private |public )?[\\w\\[\\] ]+\\(.*?^\\1\\}").matcher(code);
    int bodies = 0;
    while (methods.find()) {
      bodies++;
      C.holds("some sixty lines at most: " + methods.group(), methods.group().lines().count() <= 60);
    }
    C.holds("methods were found", bodies > 30);
    Matcher imports = Pattern.compile("import ([^;]+);").matcher(code);
    while (imports.find()) C.holds("import of " + imports.group(1), imports.group(1).equals("java.util.Arrays"));
  }
}
