import java.lang.reflect.Constructor;
import java.lang.reflect.Field;
import java.lang.reflect.Method;
import java.lang.reflect.Modifier;
import java.nio.file.Files;
import java.nio.file.Path;
import java.util.Arrays;
import java.util.Set;
import java.util.TreeSet;
import java.util.regex.Matcher;
import java.util.regex.Pattern;

/** What of ../shared/LANGUAGE.md can be seen from the class and its text. */
public final class RulesTest {
  private static final Set<String> FACE = new TreeSet<>(Arrays.asList(
      "int feed(int,int,int,int,int)", "int end(int)", "int law()", "int say()", "int fault(int)", "int sound(int,int)",
      "int opening(int,int,int,int)", "int word(int,int)", "int at(int,int)", "int syllable(int,int,int,int)",
      "int judge(int,long,int)", "int within(int,int)", "int rhyme(int,int)", "int mend(int,int)", "int far(int,int)",
      "int nearest(int)", "int parts(int)", "int hills(int)", "int joins(int)", "int speech(int)", "int misfits(int,int)",
      "int beat(int)", "int possible(int)", "int tally(int,int,int)", "int made(int,int,int)", "int learn(int)",
      "int forget(int)", "int cost(int,int)", "int undo()", "int about(int)"));
  private static final String[] FORBIDDEN = {
      "throw", "throws", "try", "catch", "finally", "synchronized", "assert", "import", "package", "lambda", "Object",
      "equals", "hashCode", "toString", "Random", "Thread", "Exception", "Error", "native", "volatile", "transient", "MAX_VALUE", "MIN_VALUE"};

  private static int wrong = 0;

  private RulesTest() { }

  public static void main(String[] args) throws Exception {
    checkFace();
    checkClasses();
    checkText(Files.readString(Path.of("src/main/java/SyllableMaker.java")));
    System.out.println(wrong == 0 ? "the rules are kept" : wrong + " rules are not kept");
    if (wrong != 0) System.exit(1);
  }

  private static void must(boolean right, String what) {
    if (right) return;
    wrong++;
    System.out.println(what);
  }

  private static void checkFace() {
    Class<?> c = SyllableMaker.class;
    must(Modifier.isPublic(c.getModifiers()) && Modifier.isFinal(c.getModifiers()), "rule 1: public and final");
    Set<String> found = new TreeSet<>();
    for (Method m : c.getDeclaredMethods()) {
      String parameters = String.join(",", Arrays.stream(m.getParameterTypes()).map(Class::getName).toList());
      if (Modifier.isPublic(m.getModifiers())) found.add(m.getReturnType() + " " + m.getName() + "(" + parameters + ")");
      else must(Modifier.isPrivate(m.getModifiers()), "rule 1: " + m);
    }
    must(found.equals(FACE), "rule 1: the face is " + found);
    for (Field f : c.getDeclaredFields()) must(Modifier.isPrivate(f.getModifiers()) || f.getName().equals("NONE"), "rule 1: " + f);
    Constructor<?>[] all = c.getDeclaredConstructors();
    must(all.length == 1 && Modifier.isPublic(all[0].getModifiers()) && all[0].getParameterCount() == 0, "rule 1: constructor");
  }

  private static void checkClasses() {
    Set<String> face = new TreeSet<>();
    for (String call : FACE) face.add(call.substring(4, call.indexOf('(')));
    must(SyllableMaker.class.getDeclaredClasses().length < 12, "rule 11: classes");
    checkClass(SyllableMaker.class, face);
    for (Class<?> c : SyllableMaker.class.getDeclaredClasses()) {
      must(Modifier.isStatic(c.getModifiers()) && !Modifier.isPublic(c.getModifiers()), "rule 2: " + c);
      checkClass(c, face);
    }
  }

  private static void checkClass(Class<?> c, Set<String> face) {
    int fields = 0;
    for (Field f : c.getDeclaredFields()) {
      if (!Modifier.isStatic(f.getModifiers())) fields++;
      else must(Modifier.isFinal(f.getModifiers()) && f.getType().isPrimitive(), "rule 5: " + f);
    }
    must(fields <= 20, "rule 11: fields of " + c);
    for (Method m : c.getDeclaredMethods()) {
      must(m.getParameterCount() <= 7, "rule 11: " + m);
      if (c != SyllableMaker.class || Modifier.isPrivate(m.getModifiers())) must(!face.contains(m.getName()), "rule 1: " + m);
      must(!m.isSynthetic(), "rule 2: " + m);
    }
  }

  private static void checkText(String text) {
    String code = text.replaceAll("/\\*(?s:.*?)\\*/", "").replaceAll("//.*", "").replaceAll("\"[^\"\n]*\"", "\"\"");
    for (String word : FORBIDDEN) must(!Pattern.compile("\\b" + word + "\\b").matcher(code).find(), "rules 4, 6: " + word);
    must(!code.contains("->") && !code.contains("::"), "rule 2: a lambda");
    must(!Pattern.compile("while \\(true\\)|for \\(;;").matcher(code).find(), "rule 9: a loop without an end");
    Matcher m = Pattern.compile("(?m)^    (?:    )?[\\w\\[\\] ]+\\([^;]*?\\) \\{\n(?s:.*?)^    (?:    )?\\}").matcher(code);
    while (m.find()) must(m.group().lines().count() <= 60, "rule 11: a long method: " + m.group().lines().findFirst());
    // What is made is made with the object: nothing is counted behind it.
    Matcher made = Pattern.compile("\\bnew (\\w+)").matcher(code);
    while (made.find()) must(!made.group(1).startsWith("String"), "rule 12: a text is made");
  }
}
