import java.lang.reflect.Method;
import java.nio.file.Files;
import java.nio.file.Path;
import java.util.Set;
import java.util.TreeSet;
import java.util.regex.Matcher;
import java.util.regex.Pattern;

/** The calls of README.md have the answers that stand behind them, and each call of the face is among them. */
public final class ReadmeTest extends Bench {
  private static final Pattern PUT = Pattern.compile("put\\(x, \"(.*)\"\\);");
  private static final Pattern CALL = Pattern.compile("x\\.(\\w+)\\((.*?)\\); +// (-?\\d+)(:.*)?");

  private static SyllableMaker x = new SyllableMaker();
  private static final Set<String> called = new TreeSet<>();

  private ReadmeTest() { }

  public static void main(String[] args) throws Exception {
    boolean code = false;
    for (String line : Files.readAllLines(Path.of("README.md"))) {
      if (line.startsWith("```")) code = line.equals("```java");
      else if (code) follow(line);
    }
    for (Method m : SyllableMaker.class.getDeclaredMethods()) {
      if (java.lang.reflect.Modifier.isPublic(m.getModifiers())) due("calls of " + m.getName(), called.contains(m.getName()) ? 1 : 0, 1);
    }
    tell("README.md tells what is so");
  }

  /** A line of a method's body is indented, and is not followed. */
  private static void follow(String line) throws Exception {
    promise = "README.md";
    Matcher put = PUT.matcher(line);
    Matcher call = CALL.matcher(line);
    if (line.equals("SyllableMaker x = new SyllableMaker();")) x = new SyllableMaker();
    else if (put.matches()) due(line, put(x, put.group(1)), x.about(6));
    else if (call.matches()) due(line, answer(call.group(1), call.group(2)), Long.parseLong(call.group(3)));
    else if (line.startsWith("x.") || line.startsWith("put(")) due("an answer behind " + line, 0, 1);
  }

  private static int answer(String name, String list) throws Exception {
    called.add(name);
    String[] told = list.isEmpty() ? new String[0] : list.split(", ");
    for (Method m : SyllableMaker.class.getMethods()) {
      if (!m.getName().equals(name) || m.getParameterCount() != told.length) continue;
      Object[] arguments = new Object[told.length];
      for (int i = 0; i < told.length; i++) {
        long n = Long.decode(told[i]);
        arguments[i] = m.getParameterTypes()[i] == long.class ? (Object) n : (Object) (int) n;
      }
      return (int) m.invoke(x, arguments);
    }
    due("a call " + name, 0, 1);
    return NONE;
  }
}
