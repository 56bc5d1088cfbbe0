import java.util.ArrayDeque;
import java.util.ArrayList;
import java.util.Arrays;
import java.util.Collections;
import java.util.Deque;
import java.util.HashMap;
import java.util.LinkedHashMap;
import java.util.LinkedHashSet;
import java.util.List;
import java.util.Map;
import java.util.Set;
import java.util.TreeSet;

/**
 * The document told a second time, by trying everything: WORDS are texts of letters, all cuts are
 * written out, UNDO is by what was kept of the whole. It is what RandomRuns compares the class with.
 */
final class Model {
  static final int NONE = -1;
  static final List<String> NAMES = List.of("bare", "shut", "rough", "wild", "burst", "clash");

  /** What a LAW tells; words and costs may change. */
  static final class Rules {
    final List<Character> letters = new ArrayList<>();
    final Map<Character, Integer> open = new HashMap<>();
    final Set<Character> peaks = new TreeSet<>();
    final Set<String> told = new LinkedHashSet<>();
    final Set<String> glides = new LinkedHashSet<>();
    final Map<String, int[]> once = new HashMap<>();
    List<String> words = new ArrayList<>();
    int[] costs = new int[6];
    Character help;

    int[] get(String line, int... otherwise) {
      return once.getOrDefault(line, otherwise);
    }
  }

  static final class Fault extends RuntimeException {
    private static final long serialVersionUID = 1;
    final int which;
    final int place;
    Fault(int which, int place) {
      this.which = which;
      this.place = place;
    }
  }

  record Token(char kind, String text, int place) { }

  record Syl(String opening, String heart, String closing, int begin) { }

  record Kept(List<String> words, int[] costs) { }

  byte[] tape = new byte[0];
  Rules rules = new Rules();
  List<String> speech = new ArrayList<>();
  Deque<Kept> kept = new ArrayDeque<>();
  int fault = 0;
  int place = NONE;

  // ---- the TAPE

  int feed(int... numbers) {
    if (tape.length + 20 > 900) return NONE;
    byte[] more = Arrays.copyOf(tape, tape.length + 20);
    for (int i = 0; i < 20; i++) more[tape.length + i] = (byte) (numbers[i / 4] >> (24 - i % 4 * 8));
    tape = more;
    return tape.length;
  }

  int end(int n) {
    if (n < 0 || n > tape.length) return NONE;
    tape = Arrays.copyOf(tape, n);
    return n;
  }

  private List<Token> tokens() {
    List<Token> all = new ArrayList<>();
    String text = new String(tape, java.nio.charset.StandardCharsets.ISO_8859_1);
    java.util.regex.Matcher m = java.util.regex.Pattern.compile("[ \n]+|([a-z]+)|([0-9]+)([a-z]?)|(;)|(.)", java.util.regex.Pattern.DOTALL).matcher(text);
    int from = 0;
    while (m.find(from)) {
      from = m.end();
      if (m.group(1) != null) all.add(new Token(m.group(1).length() > 12 ? '?' : 'r', m.group(1), m.start()));
      else if (m.group(2) != null) all.add(new Token(m.group(2).length() > 3 || !m.group(3).isEmpty() ? '?' : 'n', m.group(2), m.start()));
      else if (m.group(4) != null) all.add(new Token(';', ";", m.start()));
      else if (m.group(5) != null) all.add(new Token('?', m.group(5), m.start()));
    }
    all.add(new Token('$', "", text.length()));
    return all;
  }

  private List<Token> left;
  private Rules draft;

  private Token take(char kind) {
    Token t = left.get(0);
    if (t.kind == '?') throw new Fault(1, t.place);
    if (t.kind != kind) throw new Fault(2, t.place);
    left.remove(0);
    return t;
  }

  private int number(int least, int most) {
    Token t = take('n');
    int n = Integer.parseInt(t.text);
    if (n < least || n > most) throw new Fault(4, t.place);
    return n;
  }

  private String row(int least, int most, Boolean peaks) {
    Token t = take('r');
    for (char c : t.text.toCharArray()) {
      if (!draft.open.containsKey(c)) throw new Fault(3, t.place);
      if (peaks != null && peaks != draft.peaks.contains(c)) throw new Fault(3, t.place);
    }
    if (t.text.length() < least || t.text.length() > most) throw new Fault(4, t.place);
    return t.text;
  }

  private void line() {
    Token t = take('r');
    switch (t.text) {
      case "sound" -> {
        if (draft.letters.size() == 16) throw new Fault(5, t.place);
        Token r = take('r');
        if (r.text.length() > 1) throw new Fault(4, r.place);
        char c = r.text.charAt(0);
        if (draft.open.containsKey(c)) throw new Fault(3, r.place);
        int open = number(0, 9);
        if (left.get(0).text.equals("peak")) {
          left.remove(0);
          draft.peaks.add(c);
        }
        draft.letters.add(c);
        draft.open.put(c, open);
      }
      case "open" -> {
        if (draft.told.size() == 12) throw new Fault(5, t.place);
        int at = left.get(0).place;
        if (!draft.told.add(row(2, 4, false))) throw new Fault(4, at);
      }
      case "glide" -> {
        if (draft.glides.size() == 6) throw new Fault(5, t.place);
        int at = left.get(0).place;
        String r = row(2, 2, true);
        if (r.charAt(0) == r.charAt(1) || !draft.glides.add(r)) throw new Fault(4, at);
      }
      case "word" -> {
        if (draft.words.size() == 20) throw new Fault(5, t.place);
        draft.words.add(row(1, 12, null));
      }
      case "cost" -> {
        Token name = left.get(0);
        if (name.kind == 'r' && (!NAMES.contains(name.text) || draft.once.containsKey("cost " + name.text))) throw new Fault(2, name.place);
        take('r');
        draft.once.put("cost " + name.text, new int[0]);
        draft.costs[NAMES.indexOf(name.text)] = number(0, 999);
      }
      case "rise", "close", "weigh", "stress", "help", "move" -> {
        if (draft.once.containsKey(t.text)) throw new Fault(2, t.place);
        int[] all = switch (t.text) {
          case "rise" -> new int[] {number(0, 9)};
          case "close" -> new int[] {number(0, 4), number(0, 9)};
          case "weigh" -> new int[] {number(0, 9), number(0, 9), number(0, 9), number(1, 99)};
          case "stress" -> new int[] {number(1, 4), left.get(0).kind == 'n' ? number(0, 9) : 0};
          case "move" -> new int[] {number(0, 4)};
          default -> {
            draft.help = row(1, 1, true).charAt(0);
            yield new int[0];
          }
        };
        draft.once.put(t.text, all);
      }
      default -> throw new Fault(2, t.place);
    }
    take(';');
  }

  private void note(Fault f) {
    fault = f == null ? 0 : f.which;
    place = f == null ? NONE : f.place;
    tape = new byte[0];
  }

  int law() {
    left = tokens();
    draft = new Rules();
    try {
      while (left.get(0).kind != '$') line();
    } catch (Fault f) {
      note(f);
      return NONE;
    }
    note(null);
    rules = draft;
    speech = new ArrayList<>();
    kept.clear();
    return rules.letters.size();
  }

  int say() {
    if (tape.length > 200) return -2;
    left = tokens();
    draft = rules;
    List<String> said = new ArrayList<>();
    try {
      do {
        int at = left.get(0).place;
        String r = row(1, 12, null);
        if (said.size() == 8) throw new Fault(5, at);
        said.add(r);
      } while (left.get(0).kind != '$');
    } catch (Fault f) {
      note(f);
      return NONE;
    }
    note(null);
    speech = said;
    return speech.size();
  }

  int fault(int what) {
    return what == 0 ? fault : what == 1 ? place : NONE;
  }

  // ---- SOUNDS, OPENINGS, CLOSINGS

  int sound(int i, int what) {
    if (i < 0 || i >= rules.letters.size()) return NONE;
    char c = rules.letters.get(i);
    return what == 0 ? c : what == 1 ? rules.open.get(c) : what == 2 ? (peak(c) ? 1 : 0) : NONE;
  }

  boolean peak(char c) {
    return rules.peaks.contains(c);
  }

  int open(char c) {
    return rules.open.get(c);
  }

  int firstPeak(String w) {
    for (int i = 0; i < w.length(); i++) if (peak(w.charAt(i))) return i;
    return -1;
  }

  boolean learntOpening(String o) {
    for (String w : rules.words) if (firstPeak(w) >= 0 && w.substring(0, firstPeak(w)).equals(o)) return true;
    return false;
  }

  boolean rising(String o) {
    int[] rise = rules.get("rise");
    if (rise.length == 0) return false;
    for (int i = 1; i < o.length(); i++) if (open(o.charAt(i)) < open(o.charAt(i - 1)) + rise[0]) return false;
    return true;
  }

  int kind(String o) {
    if (o.length() < 2) return 1;
    if (o.length() > 4) return 0;
    return rules.told.contains(o) ? 2 : learntOpening(o) ? 3 : rising(o) ? 4 : 0;
  }

  boolean legalClosing(String c) {
    int[] close = rules.get("close", 4, 0);
    if (c.length() > close[0]) return false;
    for (int i = 1; i < c.length(); i++) if (open(c.charAt(i)) > open(c.charAt(i - 1)) - close[1]) return false;
    return true;
  }

  int opening(int a, int b, int c, int d) {
    String o = "";
    for (int n : new int[] {a, b, c, d}) {
      if (n == NONE) break;
      if (n < 0 || n >= rules.letters.size() || peak(rules.letters.get(n))) return NONE;
      o += rules.letters.get(n);
    }
    return kind(o);
  }

  // ---- cuts

  String get(int word) {
    List<String> from = word >= 100 ? rules.words : speech;
    int i = word >= 100 ? word - 100 : word;
    return i >= 0 && i < from.size() ? from.get(i) : null;
  }

  List<int[]> hearts(String w) {
    List<int[]> all = new ArrayList<>();
    int i = 0;
    while (i < w.length()) {
      if (!peak(w.charAt(i))) {
        i++;
        continue;
      }
      String two = i + 1 < w.length() ? w.substring(i, i + 2) : "";
      boolean pair = !two.isEmpty() && (two.charAt(0) == two.charAt(1) || rules.glides.contains(two));
      all.add(new int[] {i, pair ? i + 2 : i + 1});
      i += pair ? 2 : 1;
    }
    return all;
  }

  /** All cuts, in the order of their rows of closing SOUNDS. */
  List<List<Integer>> cuts(String w) {
    List<List<Integer>> all = new ArrayList<>();
    List<int[]> h = hearts(w);
    if (h.isEmpty()) return all;
    all.add(List.of());
    for (int g = 0; g + 1 < h.size(); g++) {
      int gap = h.get(g + 1)[0] - h.get(g)[1];
      List<List<Integer>> longer = new ArrayList<>();
      for (List<Integer> c : all) for (int n = 0; n <= gap; n++) {
        List<Integer> d = new ArrayList<>(c);
        d.add(n);
        longer.add(d);
      }
      all = longer;
    }
    return all;
  }

  List<Syl> syllables(String w, List<Integer> cut) {
    List<Syl> all = new ArrayList<>();
    List<int[]> h = hearts(w);
    int begin = 0;
    for (int k = 0; k < h.size(); k++) {
      int end = k + 1 < h.size() ? h.get(k)[1] + cut.get(k) : w.length();
      all.add(new Syl(w.substring(begin, h.get(k)[0]), w.substring(h.get(k)[0], h.get(k)[1]), w.substring(h.get(k)[1], end), begin));
      begin = end;
    }
    return all;
  }

  List<Syl> plain(String w) {
    List<int[]> h = hearts(w);
    List<Integer> cut = new ArrayList<>();
    for (int k = 0; k + 1 < h.size(); k++) {
      String gap = w.substring(h.get(k)[1], h.get(k + 1)[0]);
      int n = 0;
      while (kind(gap.substring(n)) == 0) n++;
      cut.add(n);
    }
    return syllables(w, cut);
  }

  int weight(Syl s) {
    int[] weigh = rules.get("weigh", 1, 2, 1, 2);
    return (s.heart.length() == 2 ? weigh[1] : weigh[0]) + s.closing.length() * weigh[2];
  }

  boolean heavy(Syl s) {
    return weight(s) >= rules.get("weigh", 1, 2, 1, 2)[3];
  }

  int cost(List<Syl> all, int k) {
    Syl s = all.get(k);
    int sum = rules.costs[1] * s.closing.length();
    if (s.opening.isEmpty()) sum += rules.costs[0];
    if (kind(s.opening) == 4) sum += rules.costs[2];
    if (kind(s.opening) == 0) sum += rules.costs[3];
    if (!legalClosing(s.closing)) sum += rules.costs[4];
    if (k > 0 && heavy(all.get(k - 1)) && heavy(s)) sum += rules.costs[5];
    return sum;
  }

  int total(List<Syl> all) {
    int sum = 0;
    for (int k = 0; k < all.size(); k++) sum += cost(all, k);
    return sum;
  }

  List<Syl> cheapest(String w) {
    List<Syl> best = List.of();
    for (List<Integer> c : cuts(w)) {
      List<Syl> s = syllables(w, c);
      if (best.isEmpty() || total(s) < total(best)) best = s;
    }
    return best;
  }

  int stress(String w) {
    List<Syl> all = plain(w);
    int n = all.size();
    int[] stress = rules.get("stress", 2, 0);
    int best = NONE;
    for (int k = 0; k < n - 1; k++) if (n - k <= stress[1] && heavy(all.get(k))) best = k;
    return n == 0 ? NONE : best != NONE ? best : n < stress[0] ? 0 : n - stress[0];
  }

  int word(int word, int what) {
    String w = get(word);
    if (w == null) return NONE;
    boolean none = hearts(w).isEmpty();
    return switch (what) {
      case 0 -> w.length();
      case 1 -> hearts(w).size();
      case 2 -> stress(w);
      case 3 -> none ? NONE : total(plain(w));
      case 4 -> none ? NONE : total(cheapest(w));
      case 5 -> cuts(w).size();
      default -> NONE;
    };
  }

  int at(int word, int i) {
    String w = get(word);
    return w == null || i < 0 || i >= w.length() ? NONE : rules.letters.indexOf(w.charAt(i));
  }

  int syllable(int word, int cut, int k, int what) {
    String w = get(word);
    if (w == null || cut < 0 || cut > 2 || cut == 2 && word >= 100) return -100;
    List<Syl> all = cut == 0 ? plain(w) : cut == 1 ? cheapest(w) : joined().get(word);
    if (k < 0 || k >= all.size()) return -100;
    Syl s = all.get(k);
    return switch (what) {
      case 0 -> s.begin;
      case 1 -> s.opening.length();
      case 2 -> s.heart.length();
      case 3 -> s.closing.length();
      case 4 -> weight(s);
      case 5 -> heavy(s) ? 1 : 0;
      case 6 -> cost(all, k);
      default -> -100;
    };
  }

  int judge(int word, long cut, int what) {
    String w = get(word);
    if (w == null || what < 0 || what > 2) return -2;
    for (List<Integer> c : cuts(w)) {
      long told = 0;
      for (int g = 0; g < c.size(); g++) told += (long) c.get(g) << 4 * g;
      if (told != cut) continue;
      List<Syl> all = syllables(w, c);
      if (what == 0) return total(all);
      if (what == 1) {
        for (int k = 0; k < all.size(); k++) if (kind(all.get(k).opening) == 0 || !legalClosing(all.get(k).closing)) return k;
        return NONE;
      }
      int less = 0;
      for (List<Integer> d : cuts(w)) if (total(syllables(w, d)) < total(all)) less++;
      return less;
    }
    return -2;
  }

  int within(int word, int c) {
    String w = get(word);
    if (w == null) return NONE;
    int n = 0;
    for (List<Integer> d : cuts(w)) if (total(syllables(w, d)) <= c) n++;
    return n;
  }

  String stressedEnd(String w) {
    if (hearts(w).isEmpty()) return null;
    return w.substring(hearts(w).get(stress(w))[0]);
  }

  int rhyme(int a, int b) {
    if (a >= 100 || b >= 100 || get(a) == null || get(b) == null) return NONE;
    String s = stressedEnd(get(a));
    return s != null && s.equals(stressedEnd(get(b))) ? 1 : 0;
  }

  List<Integer> mended(String w) {
    List<Integer> best = null;
    if (rules.help == null) return null;
    for (int mask = 0; mask < 1 << (w.length() + 1); mask++) {
      List<Integer> places = new ArrayList<>();
      StringBuilder made = new StringBuilder();
      for (int p = 0; p <= w.length(); p++) {
        if ((mask >> p & 1) == 1) {
          places.add(p);
          made.append(rules.help);
        }
        if (p < w.length()) made.append(w.charAt(p));
      }
      if (made.length() > 12 || best != null && !before(places, best)) continue;
      List<Syl> all = plain(made.toString());
      boolean fits = !all.isEmpty();
      for (Syl s : all) fits &= kind(s.opening) != 0 && legalClosing(s.closing);
      if (fits) best = places;
    }
    return best;
  }

  private static boolean before(List<Integer> a, List<Integer> b) {
    if (a.size() != b.size()) return a.size() < b.size();
    for (int i = 0; i < a.size(); i++) if (!a.get(i).equals(b.get(i))) return a.get(i) < b.get(i);
    return false;
  }

  int mend(int word, int i) {
    String w = get(word);
    if (w == null) return NONE;
    List<Integer> places = mended(w);
    if (places == null) return -2;
    return i == NONE ? places.size() : i >= 0 && i < places.size() ? places.get(i) : NONE;
  }

  private int distance(String a, String b) {
    Integer[][] known = new Integer[a.length() + 1][b.length() + 1];
    return distance(a, b, known);
  }

  private int distance(String a, String b, Integer[][] known) {
    if (a.isEmpty() || b.isEmpty()) return 5 * (a.length() + b.length());
    if (known[a.length()][b.length()] != null) return known[a.length()][b.length()];
    char x = a.charAt(0);
    char y = b.charAt(0);
    int change = x == y ? 0 : Math.max(1, Math.abs(open(x) - open(y)) + (peak(x) ^ peak(y) ? 3 : 0));
    int best = change + distance(a.substring(1), b.substring(1), known);
    best = Math.min(best, 5 + distance(a.substring(1), b, known));
    best = Math.min(best, 5 + distance(a, b.substring(1), known));
    known[a.length()][b.length()] = best;
    return best;
  }

  int far(int a, int b) {
    return get(a) == null || get(b) == null ? NONE : distance(get(a), get(b));
  }

  int nearest(int word) {
    if (get(word) == null) return NONE;
    int best = NONE;
    for (int i = 100; get(i) != null; i++) {
      if (i != word && (best == NONE || far(word, i) < far(word, best))) best = i;
    }
    return best;
  }

  private int ways(String w) {
    if (w.isEmpty()) return 1;
    int n = 0;
    for (String p : new TreeSet<>(rules.words)) if (w.startsWith(p)) n += ways(w.substring(p.length()));
    return n;
  }

  int parts(int word) {
    return get(word) == null ? NONE : ways(get(word));
  }

  int hills(int word) {
    String w = get(word);
    if (w == null) return NONE;
    int n = 0;
    for (int from = 0; from < w.length(); from++) for (int to = from; to < w.length(); to++) {
      boolean hill = true;
      for (int i = from; i <= to; i++) hill &= open(w.charAt(i)) == open(w.charAt(from));
      if (from > 0) hill &= open(w.charAt(from - 1)) < open(w.charAt(from));
      if (to + 1 < w.length()) hill &= open(w.charAt(to + 1)) < open(w.charAt(from));
      if (hill) n++;
    }
    return n;
  }

  // ---- joins

  int joins(int k) {
    if (k < 0 || k >= speech.size()) return NONE;
    if (k == 0 || !peak(speech.get(k).charAt(0))) return 0;
    List<Syl> ahead = plain(speech.get(k - 1));
    if (ahead.isEmpty()) return 0;
    String closing = ahead.get(ahead.size() - 1).closing;
    int best = 0;
    for (int n = 0; n <= closing.length() && n <= rules.get("move", 1)[0]; n++) {
      if (kind(closing.substring(closing.length() - n)) != 0) best = n;
    }
    return best;
  }

  List<List<Syl>> joined() {
    List<List<Syl>> all = new ArrayList<>();
    for (String w : speech) all.add(new ArrayList<>(plain(w)));
    for (int k = 1; k < speech.size(); k++) {
      int n = joins(k);
      if (n == 0) continue;
      List<Syl> ahead = all.get(k - 1);
      Syl last = ahead.get(ahead.size() - 1);
      int stays = last.closing.length() - n;
      ahead.set(ahead.size() - 1, new Syl(last.opening, last.heart, last.closing.substring(0, stays), last.begin));
      Syl first = all.get(k).get(0);
      all.get(k).set(0, new Syl(last.closing.substring(stays), first.heart, first.closing, -n));
    }
    return all;
  }

  int speech(int what) {
    if (speech.isEmpty() || what < 0 || what > 2) return NONE;
    int n = 0;
    for (int k = 0; k < speech.size(); k++) {
      List<Syl> plain = plain(speech.get(k));
      List<Syl> joined = joined().get(k);
      for (int i = 0; i < plain.size(); i++) {
        boolean counts = what == 0 ? heavy(joined.get(i)) : what == 1 ? heavy(plain.get(i)) : !plain.get(i).equals(joined.get(i));
        if (counts) n++;
      }
    }
    return n;
  }

  private List<Boolean> stresses() {
    List<Boolean> all = new ArrayList<>();
    for (String w : speech) for (int k = 0; k < hearts(w).size(); k++) all.add(k == stress(w));
    return all;
  }

  int misfits(int n, int f) {
    List<Boolean> all = stresses();
    if (all.isEmpty() || n < 2 || n > 4 || f < 0 || f >= n) return NONE;
    Set<Integer> beats = new TreeSet<>();
    for (int i = f; i < all.size(); i += n) beats.add(i);
    int sum = 0;
    for (int i = 0; i < all.size(); i++) if (beats.contains(i) ^ all.get(i)) sum++;
    return sum;
  }

  int beat(int what) {
    List<int[]> all = new ArrayList<>();
    for (int n = 2; n <= 4; n++) for (int f = 0; f < n; f++) all.add(new int[] {n, f, misfits(n, f)});
    int[] best = Collections.min(all, (x, y) -> Integer.compare(x[2], y[2]));
    return best[2] == NONE || what < 0 || what > 2 ? NONE : best[what];
  }

  // ---- what can be, what is made

  private int rows(String row, int n) {
    if (row.length() < n) {
      int sum = 0;
      for (char c : rules.letters) sum += rows(row + c, n);
      return sum;
    }
    List<int[]> h = hearts(row);
    if (h.size() != 1) return 0;
    return kind(row.substring(0, h.get(0)[0])) != 0 && legalClosing(row.substring(h.get(0)[1])) ? 1 : 0;
  }

  int possible(int n) {
    return n < 1 || n > 6 ? NONE : rows("", n);
  }

  private Map<String, Integer> tally(int sort) {
    Map<String, Integer> all = new LinkedHashMap<>();
    for (String w : rules.words) for (Syl s : plain(w)) all.merge(sort == 0 ? s.opening : sort == 1 ? s.heart : s.closing, 1, Integer::sum);
    return all;
  }

  int tally(int sort, int i, int what) {
    if (sort < 0 || sort > 2) return NONE;
    List<Map.Entry<String, Integer>> all = new ArrayList<>(tally(sort).entrySet());
    if (i == NONE) return all.size();
    if (i < 0 || i >= all.size() || what < 0) return NONE;
    String row = all.get(i).getKey();
    if (what == 0) return all.get(i).getValue();
    if (what == 1) return row.length();
    return what - 2 < row.length() ? rules.letters.indexOf(row.charAt(what - 2)) : NONE;
  }

  int made(int seed, int n, int i) {
    if (n < 1 || n > 4) return NONE;
    String made = "";
    for (int k = 0; k < n; k++) for (int sort = 0; sort < 3; sort++) {
      List<String> all = new ArrayList<>();
      tally(sort).forEach((row, often) -> all.addAll(Collections.nCopies(often, row)));
      if (all.isEmpty()) return NONE;
      seed = seed * 1103515245 + 12345;
      made += all.get((seed >>> 16) % all.size());
    }
    return i == NONE ? made.length() : i < 0 || i >= made.length() ? NONE : rules.letters.indexOf(made.charAt(i));
  }

  // ---- acts

  private void keep() {
    kept.addLast(new Kept(new ArrayList<>(rules.words), rules.costs.clone()));
    if (kept.size() > 12) kept.removeFirst();
  }

  int learn(int k) {
    if (k < 0 || k >= speech.size() || rules.words.size() == 20) return NONE;
    keep();
    rules.words.add(speech.get(k));
    return 99 + rules.words.size();
  }

  int forget(int word) {
    if (word < 100 || get(word) == null) return NONE;
    keep();
    rules.words.remove(word - 100);
    return rules.words.size();
  }

  int cost(int which, int n) {
    if (which < 0 || which > 5 || n < 0 || n > 999 || rules.costs[which] == n) return NONE;
    keep();
    int was = rules.costs[which];
    rules.costs[which] = n;
    return was;
  }

  int undo() {
    if (kept.isEmpty()) return NONE;
    Kept last = kept.removeLast();
    rules.words = last.words;
    rules.costs = last.costs;
    return kept.size();
  }

  int about(int what) {
    Set<String> learnt = new TreeSet<>();
    for (String w : rules.words) if (firstPeak(w) >= 2 && firstPeak(w) <= 4) learnt.add(w.substring(0, firstPeak(w)));
    return switch (what) {
      case 0 -> rules.letters.size();
      case 1 -> rules.told.size();
      case 2 -> rules.glides.size();
      case 3 -> rules.words.size();
      case 4 -> speech.size();
      case 5 -> kept.size();
      case 6 -> tape.length;
      case 7 -> learnt.size();
      case 10, 11, 12, 13, 14, 15 -> rules.costs[what - 10];
      default -> NONE;
    };
  }
}
