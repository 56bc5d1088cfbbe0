import java.io.PrintWriter;
import java.io.StringWriter;
import java.nio.file.Files;
import java.nio.file.Path;
import java.util.ArrayList;
import java.util.List;
import java.util.Map;
import java.util.Optional;
import java.util.Set;
import java.util.TreeMap;
import java.util.TreeSet;
import java.util.regex.Matcher;
import java.util.regex.Pattern;
import java.util.spi.ToolProvider;
import java.util.stream.Stream;

/** What of ../shared/LANGUAGE.md can be seen from the compiled class: who calls whom, what is made, what is thrown. */
public final class CallsTest extends Bench {
  private static final int DEEPEST = 8;
  private static final Pattern METHOD = Pattern.compile("  (?:[\\w.$\\[\\]]+ )*([\\w.$]+)\\(.*\\);");
  private static final Pattern CALLED = Pattern.compile("invoke\\w+ .*// (?:Interface)?Method ([^:]+):.*");
  private static final Set<String> LIBRARY = Set.of("java/lang/Object.\"<init>\"", "java/lang/Math.abs", "java/lang/Math.max",
      "java/lang/Math.min", "java/lang/System.arraycopy", "java/lang/String.length", "java/lang/String.charAt");

  private static final Map<String, Set<String>> calls = new TreeMap<>();
  private static final Map<String, Integer> depths = new TreeMap<>();

  private CallsTest() { }

  public static void main(String[] args) throws Exception {
    Optional<ToolProvider> javap = ToolProvider.findFirst("javap");
    if (javap.isEmpty()) {
      System.out.println("no javap: the calls are not looked at");
      return;
    }
    read(code(javap.get()));
    due("some calls are read", calls.size() > 100 ? 1 : 0, 1);
    for (String method : calls.keySet()) {
      promise = "LANGUAGE.md, rule 11";
      due("calls that stand open at once from " + method + " on are " + depth(method, new ArrayList<>()), depths.get(method) <= DEEPEST ? 1 : 0, 1);
    }
    tell("calls go " + depths.values().stream().max(Integer::compare).orElse(0) + " deep, and nothing is made or thrown behind the constructors");
  }

  private static String code(ToolProvider javap) throws Exception {
    Path place = Path.of(SyllableMaker.class.getProtectionDomain().getCodeSource().getLocation().toURI());
    List<String> told = new ArrayList<>(List.of("-c", "-p"));
    try (Stream<Path> files = Files.list(place)) {
      files.filter(f -> f.getFileName().toString().matches("SyllableMaker(\\$\\w+)?\\.class")).sorted().forEach(f -> told.add(f.toString()));
    }
    StringWriter text = new StringWriter();
    PrintWriter out = new PrintWriter(text);
    due("javap", javap.run(out, out, told.toArray(new String[0])), 0);
    return text.toString();
  }

  private static void read(String code) {
    String owner = "";
    String method = "";
    for (String line : code.split("\n")) {
      Matcher head = METHOD.matcher(line);
      if (line.contains(" class ") && line.endsWith("{")) {
        owner = line.replaceAll(".* class (\\S+) .*", "$1");
      } else if (head.matches()) {
        String name = head.group(1);
        method = owner + "." + (name.equals(owner) ? "\"<init>\"" : name);
        calls.put(method, new TreeSet<>());
      } else {
        readStep(line.trim(), owner, method);
      }
    }
  }

  private static void readStep(String step, String owner, String method) {
    promise = "LANGUAGE.md, " + method + ": " + step;
    boolean makes = step.matches("\\d+: (new|newarray|anewarray|multianewarray) .*");
    if (makes) due("made behind the constructors (rule 12)", method.endsWith("\"<init>\"") ? 1 : 0, 1);
    if (step.matches("\\d+: athrow.*") || step.startsWith("Exception table")) due("throws, catches (rule 6)", 1, 0);
    if (step.contains("invokedynamic")) due("a lambda, texts joined by + (rules 2, 10)", 1, 0);
    Matcher call = CALLED.matcher(step);
    if (!call.find()) return;
    String name = call.group(1);
    if (name.startsWith("java/")) due("of the library (rule 4)", LIBRARY.contains(name) ? 1 : 0, 1);
    else calls.get(method).add(name.contains(".") ? name : owner + "." + name);
  }

  /** How many calls stand open at once at the most, this one among them. */
  private static int depth(String method, List<String> open) {
    Integer known = depths.get(method);
    if (known != null) return known;
    if (open.contains(method)) {
      due(method + " calls itself by way of " + open, 1, 0);
      return 0;
    }
    open.add(method);
    int most = 0;
    for (String next : calls.getOrDefault(method, Set.of())) most = Math.max(most, depth(next, open));
    open.remove(method);
    depths.put(method, most + 1);
    return most + 1;
  }
}
