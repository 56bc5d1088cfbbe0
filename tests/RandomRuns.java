import java.util.ArrayList;
import java.util.List;
import java.util.Random;

/** Runs of calls by a fixed seed, each answer compared with the Model's. */
public final class RandomRuns {
  private static final int RUNS = 2000;
  private static final int CALLS = 512;
  private static final String PLACES = " cost bare shut rough wild burst clash sound open glide word rise close weigh stress help move peak ; 0 9 10 99 ";

  private static int wrong = 0;
  private final Random random;
  private final SyllableMaker maker = new SyllableMaker();
  private final Model model = new Model();
  private final StringBuilder log = new StringBuilder();
  private int calls = 0;
  private int run;

  private RandomRuns(int run) {
    this.run = run;
    random = new Random(run * 7919L + 17);
  }

  public static void main(String[] args) {
    for (int run = 0; run < RUNS && wrong < 5; run++) new RandomRuns(run).go();
    System.out.println(wrong == 0 ? "all random runs are as due" : wrong + " random runs are not as due");
    if (wrong != 0) System.exit(1);
  }

  private int upTo(int n) {
    return random.nextInt(n);
  }

  private boolean due(String call, int got, int want) {
    calls++;
    log.append(call).append(" = ").append(got).append('\n');
    if (got == want) return true;
    wrong++;
    System.out.println("run " + run + ": " + call + " answered " + got + ", due is " + want + ", behind:\n" + log);
    return false;
  }

  private void go() {
    boolean right = text(lawText(), true);
    if (right && upTo(8) > 0) right = text(speechText(), false);
    while (right && calls + 120 < CALLS) {
      int kind = upTo(100);
      if (kind < 1) right = text(lawText(), true);
      else if (kind < 6) right = text(speechText(), false);
      else if (kind < 13) right = tapeCall();
      else if (kind < 30) right = act();
      else right = ask();
    }
  }

  // ---- texts

  private boolean text(String text, boolean law) {
    int from = model.tape.length;
    log.append("text ").append(text.replace("\n", "\\n")).append('\n');
    for (int i = 0; i < text.length(); i += 20) {
      int[] n = new int[5];
      for (int j = 0; j < 20; j++) n[j / 4] = n[j / 4] << 8 | (i + j < text.length() ? text.charAt(i + j) : 0);
      if (!due("feed", maker.feed(n[0], n[1], n[2], n[3], n[4]), model.feed(n))) return false;
    }
    if (!due("end", maker.end(from + text.length()), model.end(from + text.length()))) return false;
    boolean right = law ? due("law()", maker.law(), model.law()) : due("say()", maker.say(), model.say());
    return right && due("fault(0)", maker.fault(0), model.fault(0)) && due("fault(1)", maker.fault(1), model.fault(1));
  }

  /** A line that may have its ROW; one that may not is seldom put in. */
  private void addRowLine(List<String> lines, String word, String letters, int least, int most) {
    if (letters.isEmpty() && upTo(30) > 0) return;
    String row = row(letters, least, most);
    boolean alike = word.equals("glide") && row.charAt(0) == row.charAt(1);
    if ((alike || !word.equals("word") && lines.contains(word + " " + row)) && upTo(30) > 0) return;
    lines.add(word + " " + row);
  }

  private String row(String letters, int least, int most) {
    if (letters.isEmpty()) letters = "q";
    StringBuilder row = new StringBuilder();
    int size = least + upTo(most - least + 1);
    for (int i = 0; i < size; i++) row.append(letters.charAt(upTo(letters.length())));
    return row.toString();
  }

  private String lawText() {
    String[] pools = {"aeptsnl", "aeioubcdfghjklmn", "aip", "ptaaa", "aeio", "pts", "stranleio"};
    String letters = pools[upTo(pools.length)];
    StringBuilder law = new StringBuilder();
    String peaks = "";
    String others = "";
    int flat = upTo(3);
    for (char c : letters.toCharArray()) {
      if (law.indexOf("sound " + c + " ") >= 0 && upTo(30) > 0) continue;
      boolean peak = "aeiou".indexOf(c) >= 0;
      if (upTo(20) == 0) peak = !peak;
      if (peak) peaks += c;
      else others += c;
      int open = flat == 0 ? upTo(3) : peak && flat == 1 ? 9 - upTo(2) : upTo(10);
      law.append("sound ").append(c).append(' ').append(open).append(peak ? " peak;" : ";");
    }
    List<String> lines = new ArrayList<>();
    for (int i = upTo(5); i > 0; i--) addRowLine(lines, "open", others, 2, 4);
    for (int i = upTo(6); i > 0; i--) addRowLine(lines, "glide", peaks, 2, 2);
    for (int i = upTo(7); i > 0; i--) addRowLine(lines, "word", peaks + others, 1, upTo(3) == 0 ? 12 : 6);
    for (int i = upTo(3); i > 0 && !peaks.isEmpty() && !others.isEmpty(); i--) lines.add("word " + row(others, 0, 4) + row(peaks, 1, 1) + row(others, 0, 2));
    if (upTo(2) == 0) lines.add("rise " + upTo(5));
    if (upTo(2) == 0) lines.add("close " + upTo(5) + " " + upTo(4));
    if (upTo(2) == 0) lines.add("weigh " + upTo(3) + " " + upTo(4) + " " + upTo(3) + " " + (1 + upTo(4)));
    if (upTo(2) == 0) lines.add("stress " + (1 + upTo(4)) + (upTo(2) == 0 ? "" : " " + upTo(6)));
    if (upTo(2) == 0) addRowLine(lines, "help", peaks, 1, 1);
    if (upTo(2) == 0) lines.add("move " + upTo(5));
    for (String name : Model.NAMES) if (upTo(3) > 0) lines.add("cost " + name + " " + upTo(upTo(4) == 0 ? 1000 : 8));
    java.util.Collections.shuffle(lines, random);
    for (String line : lines) law.append(upTo(9) == 0 ? "\n" : "").append(line).append(upTo(9) == 0 ? " ;" : ";");
    return spoil(law.toString().length() > 890 ? law.substring(0, 890) : law.toString());
  }

  private String speechText() {
    String letters = "";
    String peaks = "";
    for (char c : model.rules.letters) {
      letters += c;
      if (model.peak(c)) peaks += c;
    }
    StringBuilder text = new StringBuilder();
    for (int i = upTo(20) == 0 ? 10 : 1 + upTo(8); i > 0; i--) {
      if (upTo(10) == 0) text.append("\n");
      text.append(upTo(3) == 0 ? row(peaks, 1, 1) : "").append(row(letters, 1, upTo(4) == 0 ? 11 : 5)).append(i > 1 || upTo(3) == 0 ? " " : "");
    }
    return upTo(3) == 0 ? spoil(text.toString()) : text.toString();
  }

  /** Most texts stay as they are; some get a byte, a token or an end where none should be. */
  private String spoil(String text) {
    if (upTo(4) > 0 || text.isEmpty()) return text;
    int at = upTo(text.length());
    switch (upTo(6)) {
      case 0: return text.substring(0, at);
      case 1: return text.substring(0, at) + (char) upTo(256) + text.substring(at + 1);
      case 2: return text.substring(0, at) + text.substring(at + 1);
      case 3: return text.substring(0, at) + text.substring(at / 2);
      case 4: return text + text.substring(at);
      default:
        String[] bits = PLACES.split(" ");
        return text.substring(0, at) + " " + bits[upTo(bits.length)] + " " + text.substring(at);
    }
  }

  private boolean tapeCall() {
    if (upTo(2) == 0) {
      int n = upTo(30) - 3;
      return due("end(" + n + ")", maker.end(n), model.end(n));
    }
    if (upTo(2) == 0) return due("say()", maker.say(), model.say());
    boolean right = true;
    for (int i = 1 + upTo(3) * 24; right && i > 0 && calls + 70 < CALLS; i--) {
      int a = random.nextInt();
      right = due("feed(" + a + ", 0, 0, 0, 0)", maker.feed(a, 0, 0, 0, 0), model.feed(a, 0, 0, 0, 0));
    }
    return right;
  }

  // ---- calls

  private int some() {
    int[] all = {-1, -2, 0, 1, 2, 3, 4, 5, 6, 7, 8, 99, 100, 101, 119, 120, Integer.MIN_VALUE, Integer.MAX_VALUE};
    return all[upTo(all.length)];
  }

  private int few(int n) {
    return upTo(25) == 0 ? some() : upTo(n);
  }

  private int anyWord() {
    return upTo(25) == 0 ? some() : upTo(2) == 0 ? upTo(8) : 100 + upTo(9);
  }

  private boolean act() {
    int a = few(6);
    switch (upTo(5)) {
      case 0: return due("learn(" + a + ")", maker.learn(a), model.learn(a));
      case 1:
        int w = upTo(6) == 0 ? some() : 100 + upTo(12);
        return due("forget(" + w + ")", maker.forget(w), model.forget(w));
      case 2:
      case 3:
        int n = few(upTo(9) == 0 ? 1001 : 9);
        return due("cost(" + a + ", " + n + ")", maker.cost(a, n), model.cost(a, n));
      default: return due("undo()", maker.undo(), model.undo());
    }
  }

  private boolean ask() {
    int w = anyWord();
    int v = anyWord();
    int i = few(14) - upTo(2);
    switch (upTo(26)) {
      case 0: return due("about(" + i + ")", maker.about(i), model.about(i));
      case 1: return due("sound(" + i + ", " + v % 4 + ")", maker.sound(i, v % 4), model.sound(i, v % 4));
      case 2:
      case 3: return askOpening();
      case 4:
      case 5:
      case 6:
        int what = few(7);
        return due("word(" + w + ", " + what + ")", maker.word(w, what), model.word(w, what));
      case 7: return due("at(" + w + ", " + i + ")", maker.at(w, i), model.at(w, i));
      case 8:
      case 9:
      case 10:
      case 11: return askSyllable(w);
      case 12:
      case 13: return askJudge(w);
      case 14: return due("within(" + w + ", " + i + ")", maker.within(w, i), model.within(w, i));
      case 15:
        int a = few(8);
        int b = few(8);
        return due("rhyme(" + a + ", " + b + ")", maker.rhyme(a, b), model.rhyme(a, b));
      case 16: return askMend(w);
      case 17: return due("far(" + w + ", " + v + ")", maker.far(w, v), model.far(w, v));
      case 18: return due("nearest(" + w + ")", maker.nearest(w), model.nearest(w));
      case 19: return due("parts(" + w + ")", maker.parts(w), model.parts(w)) && due("hills(" + w + ")", maker.hills(w), model.hills(w));
      case 20: return due("joins(" + i + ")", maker.joins(i), model.joins(i));
      case 21:
        int s = few(3);
        return due("speech(" + s + ")", maker.speech(s), model.speech(s)) && due("beat(" + s + ")", maker.beat(s), model.beat(s));
      case 22:
        int n = few(6);
        int f = few(4);
        return due("misfits(" + n + ", " + f + ")", maker.misfits(n, f), model.misfits(n, f));
      case 23: return askPossible();
      case 24: return askTally();
      default: return askMade();
    }
  }

  private boolean askOpening() {
    int n = Math.max(1, model.rules.letters.size());
    int a = few(n);
    int b = few(n);
    int c = upTo(2) == 0 ? -1 : few(n);
    int d = upTo(2) == 0 ? -1 : few(n);
    return due("opening(" + a + ", " + b + ", " + c + ", " + d + ")", maker.opening(a, b, c, d), model.opening(a, b, c, d));
  }

  private boolean askSyllable(int w) {
    int cut = few(3);
    int k = few(4);
    int what = few(8);
    return due("syllable(" + w + ", " + cut + ", " + k + ", " + what + ")", maker.syllable(w, cut, k, what), model.syllable(w, cut, k, what));
  }

  private boolean askJudge(int w) {
    long cut = 0;
    String word = model.get(w);
    List<List<Integer>> cuts = word == null ? List.of() : model.cuts(word);
    if (!cuts.isEmpty()) {
      List<Integer> told = cuts.get(upTo(cuts.size()));
      for (int g = 0; g < told.size(); g++) cut |= (long) told.get(g) << 4 * g;
    }
    if (upTo(6) == 0) cut += 1L << 4 * upTo(14);
    if (upTo(20) == 0) cut = random.nextLong();
    int what = few(3);
    return due("judge(" + w + ", " + cut + ", " + what + ")", maker.judge(w, cut, what), model.judge(w, cut, what));
  }

  private boolean askMend(int w) {
    boolean right = true;
    for (int i = -1; right && i < 3; i++) right = due("mend(" + w + ", " + i + ")", maker.mend(w, i), model.mend(w, i));
    return right;
  }

  private boolean askPossible() {
    int n = few(8);
    // Every row is written out by the Model: few SOUNDS for a large n.
    if (n > 1 && n < 7 && Math.pow(model.rules.letters.size(), n) > 20000) n = 1 + upTo(2);
    return due("possible(" + n + ")", maker.possible(n), model.possible(n));
  }

  private boolean askTally() {
    int sort = few(3);
    int i = few(6) - upTo(2);
    int what = few(6);
    return due("tally(" + sort + ", " + i + ", " + what + ")", maker.tally(sort, i, what), model.tally(sort, i, what));
  }

  private boolean askMade() {
    int seed = upTo(3) == 0 ? some() : random.nextInt();
    int n = few(6);
    int i = few(10) - upTo(3);
    return due("made(" + seed + ", " + n + ", " + i + ")", maker.made(seed, n, i), model.made(seed, n, i));
  }
}
