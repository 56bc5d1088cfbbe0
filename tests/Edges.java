import java.lang.reflect.InvocationTargetException;
import java.lang.reflect.Method;
import java.nio.file.Files;
import java.nio.file.Path;
import java.util.ArrayList;
import java.util.Arrays;
import java.util.Comparator;
import java.util.HashMap;
import java.util.List;
import java.util.Map;

/**
 * What the tests of the document's sentences share: each of their methods is a test of its own, and tells the
 * heading and the sentence of ../shared/DOC.md that it holds; both must stand there, word by word.
 */
abstract class Edges extends Bench {
  static final String TERMS = "Terms";
  static final String FIVE = "sound a 9 peak;sound e 9 peak;sound b 1;sound c 2;sound d 3;";
  // The numbers of FIVE's SOUNDS.
  static final int A = 0;
  static final int E = 1;
  static final int B = 2;
  static final int C = 3;
  static final int D = 4;

  private static final Path DOCUMENT = Path.of("../shared/DOC.md");
  private static final Map<String, String> SECTIONS = new HashMap<>();
  private static int held = 0;

  /** Runs each method of the class that takes nothing, but for those that only ask: due.. . */
  static void run(Class<?> tests) throws Exception {
    readDocument();
    Method[] all = tests.getDeclaredMethods();
    Arrays.sort(all, Comparator.comparing(Method::getName));
    int count = 0;
    for (Method test : all) {
      if (test.getParameterCount() > 0 || test.getReturnType() != void.class || test.getName().startsWith("due")) continue;
      runOne(test);
      count++;
    }
    tell(tests.getSimpleName() + ": all " + count + " sentences hold");
  }

  private static void runOne(Method test) throws Exception {
    held = 0;
    promise = test.getName();
    test.setAccessible(true);
    try {
      test.invoke(null);
    } catch (InvocationTargetException e) {
      wrong++;
      System.out.println(promise + ": threw " + e.getCause());
    }
    due("sentences of " + test.getName(), held, 1);
  }

  private static void readDocument() throws Exception {
    if (!Files.exists(DOCUMENT)) {
      System.out.println("no " + DOCUMENT + ": the sentences are held, but not looked up");
      return;
    }
    String heading = "";
    Map<String, List<String>> lines = new HashMap<>();
    for (String line : Files.readAllLines(DOCUMENT)) {
      if (line.startsWith("## ")) heading = line.substring(3);
      lines.computeIfAbsent(heading, h -> new ArrayList<>()).add(line);
    }
    lines.forEach((h, section) -> SECTIONS.put(h, String.join(" ", section)));
  }

  /** All that stands under a heading; nothing, if there is no document to look it up in. */
  static String section(String heading) {
    return SECTIONS.getOrDefault(heading, "");
  }

  /** The test that runs holds this sentence, or this part of one, under this heading. */
  static void holds(String heading, String sentence) {
    promise = heading + " \"" + sentence + "\"";
    held++;
    if (SECTIONS.isEmpty() || section(heading).contains(sentence)) return;
    wrong++;
    System.out.println(promise + " does not stand in " + DOCUMENT);
  }
}
