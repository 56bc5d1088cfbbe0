import java.lang.reflect.Method;
import java.lang.reflect.Modifier;
import java.util.ArrayList;
import java.util.List;
import java.util.regex.Pattern;

/** The sentences of the document beside those that name an edge (Edge..Tests): a test for each. */
public final class ReadingTests extends Edges {
  /** Each line that a LAW may have, its TOKENS parted by one blank; all may stand behind FIVE. */
  private static final String[] LINES = {
      "sound u 1 ;", "sound u 1 peak ;", "open bc ;", "glide ae ;", "rise 1 ;", "close 1 1 ;", "cost bare 1 ;",
      "weigh 1 1 1 1 ;", "stress 1 ;", "stress 1 1 ;", "help a ;", "move 1 ;", "word b ;"};
  /** By rise 0 bb may open; what costs makes it dearer than to close by the one and open by the other. */
  private static final String DEAR = FIVE + "rise 0;cost rough 9;stress 1 9;help a;move 4;";

  private ReadingTests() { }

  public static void main(String[] args) throws Exception {
    run(ReadingTests.class);
  }

  // ---- the face

  private static void face() {
    holds("The public face", "public final class SyllableMaker {");
    String told = section("The public face");
    int calls = 0;
    for (Method m : SyllableMaker.class.getDeclaredMethods()) {
      if (!Modifier.isPublic(m.getModifiers())) continue;
      calls++;
      StringBuilder call = new StringBuilder("public " + m.getReturnType() + " " + m.getName() + "\\(");
      for (int i = 0; i < m.getParameterCount(); i++) call.append(i > 0 ? ", " : "").append(m.getParameterTypes()[i]).append(" \\w+");
      boolean stands = told.isEmpty() || Pattern.compile(call + "\\);").matcher(told).find();
      due(m + " is of the face", stands ? 1 : 0, 1);
    }
    due("calls", calls, 30);
    if (!told.isEmpty()) due("calls that are told", Pattern.compile("public int \\w+\\(").matcher(told).results().count(), calls);
  }

  // ---- Terms 1

  private static void eachLinesTokens() {
    holds(TERMS, "open ROW ;  |  glide ROW ;  |  rise N ;  |  close N N ;  |  cost NAME N ;  |  weigh N N N N ;  |  stress N [N] ;  |  help ROW ;  |  move N ;  |  word ROW ;.");
    for (String line : LINES) {
      SyllableMaker x = new SyllableMaker();
      due(line, law(x, FIVE + line), line.startsWith("sound") ? 6 : 5);
      for (int end = line.indexOf(' '); end >= 0; end = line.indexOf(' ', end + 1)) {
        dueFault(FIVE + line.substring(0, end), 2, FIVE.length() + end);
      }
      // one TOKEN more: a ROW, a number, a sign
      int sign = FIVE.length() + line.length() - 1;
      dueFault(FIVE + line.replace(";", "zz ;"), 2, sign);
      if (!line.equals("stress 1 ;")) dueFault(FIVE + line.replace(";", "1 ;"), 2, sign);
      dueFault(FIVE + line + " ;", 2, sign + 2);
    }
  }

  /** Whether a ROW, a number, a sign may stand where the line's i-th TOKEN stands. */
  private static boolean mayStand(String other, String line, int i, String token) {
    if (other.equals(";")) return token.equals(";") || token.equals("peak") || line.equals("stress 1 1 ;") && i == 2;
    if (other.equals("1")) return token.equals("1") || line.equals("stress 1 ;") && i == 2;
    return other.equals("zz") && i == 1 && !token.equals("1") && !line.startsWith("cost");
  }

  private static void dueInsteadOfEach(String line, int fault, String other) {
    String[] tokens = line.split(" ");
    int place = 0;
    for (int i = 0; i < tokens.length; i++) {
      String changed = line.substring(0, place) + other + line.substring(place + tokens[i].length());
      if (!mayStand(other, line, i, tokens[i])) dueFault(FIVE + changed, fault, FIVE.length() + place);
      place += tokens[i].length() + 1;
    }
  }

  private static void anotherKindOfToken() {
    holds(TERMS, "2 one that can't stand there");
    for (String line : LINES) for (String other : new String[] {"zz", "1", ";"}) dueInsteadOfEach(line, 2, other);
  }

  private static void noTokenAnywhere() {
    holds(TERMS, "1 no TOKEN");
    String[] all = {"!", "A", "-", "abcdefghijklm", "1000", "0000", "1a", "1z", "\t", "" + (char) 0, "" + (char) 255};
    for (String line : LINES) for (String other : all) dueInsteadOfEach(line, 1, other);
  }

  // ---- Terms 2

  /** Of the first WORD, which is this one, by that cut: its SYLLABLES as texts, each as OPENING-HEART-CLOSING. */
  private static String cut(SyllableMaker x, String word, int cut) {
    StringBuilder all = new StringBuilder();
    for (int k = 0; k < x.word(0, 1); k++) {
      int place = x.syllable(0, cut, k, 0);
      all.append(k > 0 ? " " : "");
      for (int what = 1; what <= 3; what++) {
        int end = place + x.syllable(0, cut, k, what);
        all.append(what > 1 ? "-" : "").append(word, place, end);
        place = end;
      }
    }
    return all.toString();
  }

  private static void dueCut(String law, String word, int cut, String want) {
    String got = cut(by(law, word), word, cut);
    due(word + " is cut " + got + ", not " + want, got.equals(want) ? 1 : 0, 1);
  }

  private static void allOtherSounds() {
    holds(TERMS, "all other SOUNDS lie ahead of the first HEART, in GAPS between two, behind the last one.");
    for (int cut = 0; cut <= 1; cut++) {
      dueCut(FIVE, "bcadbeaab", cut, cut == 0 ? "bc-a-d b-e- -aa-b" : "bc-a- db-e- -aa-b");
      dueCut(FIVE, "bcd", cut, "");
      dueCut(FIVE, "bcdaa", cut, "bcd-aa-");
      dueCut(FIVE, "aabcd", cut, "-aa-bcd");
      dueCut(FIVE + "glide ea;", "eaeaea", cut, "-ea- -ea- -ea-");
    }
  }

  private static void threeOfASyllable() {
    holds(TERMS, "A SYLLABLE: an OPENING, a HEART, a CLOSING.");
    SyllableMaker x = by(FIVE + "glide ae;", "bcaedbbeacbd baaacaabb");
    for (int word = 0; word <= 1; word++) for (int cut = 0; cut <= 2; cut++) {
      int place = 0;
      for (int k = 0; k < x.word(word, 1); k++) {
        due("begins behind the one ahead", x.syllable(word, cut, k, 0), place);
        for (int what = 1; what <= 3; what++) for (int i = x.syllable(word, cut, k, what); i > 0; i--) {
          due("a PEAK, in HEARTS alone", x.sound(x.at(word, place++), 2), what == 2 ? 1 : 0);
        }
      }
      due("all SOUNDS are of one", place, x.word(word, 0));
    }
  }

  private static void plainIsNotTheCheapest() {
    holds(TERMS, "PLAIN CUT: of each GAP the longest LEGAL OPENING. COST of a SYLLABLE:");
    dueCut(DEAR, "babbaba", 0, "b-a- bb-a- b-a-");
    dueCut(DEAR, "babbaba", 1, "b-a-b b-a- b-a-");
  }

  private static void legalOpeningOfAWordWithoutHearts() {
    holds(TERMS, "LEARNT (a word that is learnt and has HEARTS begins with just it)");
    // of two, three, four, twelve SOUNDS, all of them, or the first of them
    SyllableMaker x = by(FIVE + "word bc;word cbd;word cbcb;word dbdbdbdbdbdb;", "");
    due("bc", x.opening(B, C, -1, -1), 0);
    due("cb", x.opening(C, B, -1, -1), 0);
    due("cbd", x.opening(C, B, D, -1), 0);
    due("cbcb", x.opening(C, B, C, B), 0);
    due("dbdb", x.opening(D, B, D, B), 0);
    due("none is LEARNT", x.about(7), 0);
  }

  private static void stressByPlainCut() {
    holds(TERMS, "STRESS of a WORD by PLAIN CUT");
    // bab.ba.ba would be HEAVY at first; ba.bba.ba is not
    due("no HEAVY one", by(DEAR, "babbaba").word(0, 2), 2);
    due("a HEAVY one", by(FIVE + "cost shut 9;stress 1 9;", "babbaba").word(0, 2), 0);
  }

  // ---- Terms 3

  private static void joinedByPlainCut() {
    holds(TERMS, "JOINED: WORDS by PLAIN CUT");
    SyllableMaker x = by(DEAR, "abba abba");
    for (int word = 0; word <= 1; word++) {
      dueSyllable(x, word, 2, 0, 0, 0, 1, 0);
      dueSyllable(x, word, 2, 1, 1, 2, 1, 0);
    }
    // what it gets is its OPENING: it is not bare any more, and may be rough
    SyllableMaker y = by(DEAR + "cost bare 5;", "abb abba");
    dueSyllable(y, 1, 0, 0, 0, 0, 1, 0, 1, 0, 5);
    dueSyllable(y, 1, 2, 0, -2, 2, 1, 0, 1, 0, 9);
    SyllableMaker z = by(FIVE + "cost bare 5;", "ab ae");
    due("of its own it has none, JOINED it has one", z.syllable(1, 2, 0, 6), 0);
    due("the one behind it has none", z.syllable(1, 2, 1, 6), 5);
  }

  private static void joinedEnd() {
    holds("Promise 20: joins", "How many SOUNDS go over to WORD k of SPEECH from the one ahead");
    SyllableMaker x = by(DEAR, "cab abb a dabbb ea b a");
    int[] want = {0, 1, 2, 0, 3, 0, 0};
    for (int k = 0; k < want.length; k++) due("joins(" + k + ")", x.joins(k), want[k]);
    // of the SOUNDS that lie last, though the first ones are LEGAL, too
    due("the end, not the beginning", by(FIVE + "rise 1;move 2;", "abcb a").joins(1), 1);
    due("the whole end", by(FIVE + "rise 1;move 2;", "acbc a").joins(1), 2);
  }

  private static void mendedByPlainCut() {
    holds(TERMS, "by PLAIN CUT each OPENING (the first, too) and each CLOSING is LEGAL");
    // PLAIN is a.bba: all LEGAL, though it is not the cheapest; abb.a and ab.ba are not asked
    dueMended(by(DEAR + "close 0 0;", "abba"), 0);
    // PLAIN ab.ba: closes 0 forbids it, a.bba is not LEGAL without a rise
    dueMended(by(FIVE + "help a;close 0 0;", "abba"), 0, 2);
  }

  private static void rhymeByPlainCut() {
    holds(TERMS, "RHYME of two WORDS of SPEECH: all from the HEART of the STRESSED SYLLABLE on is alike.");
    // STRESSED are the last ones; by bab.ba it would be the first
    due("ba of both", by(DEAR, "babba caba").rhyme(0, 1), 1);
    due("by the HEAVY one", by(FIVE + "stress 1 9;", "babba caba").rhyme(0, 1), 0);
  }

  private static void tallyOfAllLearnt() {
    holds(TERMS, "TALLY: of all SYLLABLES (PLAIN CUT) of all words that are learnt: how often each OPENING, each HEART, each CLOSING is there");
    SyllableMaker x = by(DEAR + "word babba;word bb;", "aec ca");
    // b-a- bb-a-
    int[][] want = {{2, 1, 1}, {1, 2}, {1, 2}};
    for (int sort = 0; sort <= 2; sort++) dueTimes(x, sort, want[sort]);
    due("learn(0)", x.learn(0), 102);
    // and -a- -e-c
    want = new int[][] {{3, 1, 1, 2}, {2, 3, 1}, {2, 3, 1}};
    for (int sort = 0; sort <= 2; sort++) dueTimes(x, sort, want[sort]);
    due("forget(100)", x.forget(100), 2);
    want = new int[][] {{1, 2}, {2, 1, 1}, {2, 1, 1}};
    for (int sort = 0; sort <= 2; sort++) dueTimes(x, sort, want[sort]);
    due("undo()", x.undo(), 1);
    due("as it was", x.tally(0, 0, 0), 1);
  }

  /** Of a sort how many unlike ones, then how often each is there. */
  private static void dueTimes(SyllableMaker x, int sort, int[] want) {
    due("unlike ones of " + sort, x.tally(sort, NONE, 0), want[0]);
    for (int i = 1; i < want.length; i++) due("how often " + sort + ", " + (i - 1), x.tally(sort, i - 1, 0), want[i]);
  }

  private static void madeOfSyllables() {
    holds(TERMS, "MADE by a seed: n SYLLABLES, each an OPENING, a HEART, a CLOSING: DRAWS");
    SyllableMaker x = by(FIVE + "word bacd;", "");
    int[] one = {B, A, C, D};
    for (int n = 1; n <= 4; n++) for (int seed = -2; seed <= 2; seed++) {
      due("SOUNDS", x.made(seed, n, NONE), 4 * n);
      for (int i = 0; i < 4 * n; i++) due("made(" + seed + ", " + n + ", " + i + ")", x.made(seed, n, i), one[i % 4]);
    }
  }

  // ---- promises

  private static void soundsInTheirOrder() {
    holds("Promise 7: sound", "Of the i-th SOUND what 0: its letter");
    SyllableMaker x = by("sound z 0;sound a 9 peak;rise 1;sound m 4;", "");
    String letters = "zam";
    for (int i = 0; i < 3; i++) due("sound(" + i + ", 0)", x.sound(i, 0), letters.charAt(i));
  }

  private static void openingInItsOrder() {
    holds("Promise 8: opening", "Of an OPENING told as a row");
    SyllableMaker x = by(FIVE + "open bcd;", "");
    int[] all = {B, C, D};
    for (int a : all) for (int b : all) for (int c : all) {
      due("opening(" + a + ", " + b + ", " + c + ")", x.opening(a, b, c, -1), a == B && b == C && c == D ? 2 : 0);
    }
  }

  private static void ofAWordWhat() {
    holds("Promise 9: word", "Of a WORD what 0: SOUNDS, 1: SYLLABLES, 2: STRESS (the SYLLABLE's number), 3: COST of PLAIN CUT, 4: COST of CHEAPEST CUT");
    SyllableMaker x = by(DEAR + "cost shut 2;word babbaba;", "babbaba");
    int[] want = {7, 3, 2, 9, 2, 6};
    for (int what = 0; what < want.length; what++) {
      due("word(0, " + what + ")", x.word(0, what), want[what]);
      due("word(100, " + what + ")", x.word(100, what), want[what]);
    }
  }

  private static void atTellsNumbers() {
    holds("Promise 10: at", "The i-th SOUND of a WORD (its number)");
    SyllableMaker x = by(FIVE + "word dcbea;", "aebcd");
    int[] want = {A, E, B, C, D};
    for (int i = 0; i < 5; i++) {
      due("at(0, " + i + ")", x.at(0, i), want[i]);
      due("at(100, " + i + ")", x.at(100, i), want[new int[] {4, 3, 2, 1, 0}[i]]);
    }
  }

  private static void ofASyllableWhat() {
    holds("Promise 11: syllable", "1: SOUNDS of its OPENING, 2: of its HEART, 3: of its CLOSING, 4: its WEIGHT, 5: 1 if it is HEAVY, else 0");
    SyllableMaker x = by(FIVE + "weigh 1 3 2 7;cost shut 4;cost bare 3;open bcd;", "eabcdaabb");
    dueSyllable(x, 0, 0, 0, 0, 0, 1, 0, 1, 0, 3);
    dueSyllable(x, 0, 0, 1, 1, 0, 1, 0, 1, 0, 3);
    dueSyllable(x, 0, 0, 2, 2, 3, 2, 2, 7, 1, 8);
  }

  private static void judgeTellsEachCutsCost() {
    holds("Promise 12: judge", "Of a cut that is told");
    SyllableMaker x = by(DEAR + "cost shut 2;cost bare 5;cost wild 30;close 2 0;cost burst 50;", "abbacba");
    // by the first GAP's closing SOUNDS, then by the second one's; the first a is bare
    int[][] want = {{5 + 9 + 30, 5 + 9 + 2, 5 + 9 + 4 + 5 + 0}, {5 + 2 + 30, 5 + 2 + 2, 5 + 2 + 4 + 5}, {5 + 4 + 5 + 30, 5 + 4 + 5 + 2, 5 + 4 + 5 + 4 + 5}};
    List<Integer> all = new ArrayList<>();
    for (int a = 0; a <= 2; a++) for (int b = 0; b <= 2; b++) {
      due("judge " + a + ", " + b, x.judge(0, a | b << 4, 0), want[a][b]);
      all.add(want[a][b]);
    }
    for (int a = 0; a <= 2; a++) for (int b = 0; b <= 2; b++) {
      int cost = want[a][b];
      due("less than " + cost, x.judge(0, a | b << 4, 2), all.stream().filter(c -> c < cost).count());
      due("within " + cost, x.within(0, cost), all.stream().filter(c -> c <= cost).count());
    }
    due("PLAIN", x.word(0, 3), want[0][1]);
    due("CHEAPEST", x.word(0, 4), want[1][1]);
  }

  private static void bestBeatWhat() {
    holds("Promise 23: beat", "BEST BEAT what 0: n, 1: f, 2: MISFITS");
    // STRESSED: 1, 4, 7 and the last one of two, 9
    SyllableMaker x = by(FIVE + "stress 2;", "bababa bababa bababa baba");
    due("n", x.beat(0), 3);
    due("f", x.beat(1), 1);
    due("MISFITS", x.beat(2), x.misfits(3, 1));
    due("MISFITS", x.beat(2), 2);
  }

  private static void tallyOfSort() {
    holds("Promise 25: tally", "TALLY of sort 0 OPENINGS, 1 HEARTS, 2 CLOSINGS");
    SyllableMaker x = by(FIVE + "word baacd;", "");
    int[][] want = {{1, B, NONE}, {2, A, A, NONE}, {2, C, D, NONE}};
    for (int sort = 0; sort <= 2; sort++) {
      due("how often", x.tally(sort, 0, 0), 1);
      for (int i = 0; i < want[sort].length; i++) due("tally(" + sort + ", 0, " + (1 + i) + ")", x.tally(sort, 0, 1 + i), want[sort][i]);
    }
  }

  private static void learnTellsItsNumber() {
    holds("Promise 27: learn", "WORD k of SPEECH is learnt: its number (100 ..)");
    SyllableMaker x = by(FIVE, "ba cea d");
    due("learn(2)", x.learn(2), 100);
    due("learn(1)", x.learn(1), 101);
    due("learn(1) again", x.learn(1), 102);
    for (int i = 0; i < 3; i++) for (int word = 101; word <= 102; word++) due("at(" + word + ", " + i + ")", x.at(word, i), x.at(1, i));
    due("d", x.at(100, 0), D);
    due("SPEECH has it still", x.about(4), 3);
  }

  private static void forgetTakesOne() {
    holds("Promise 28: forget", "A word that is learnt (100 ..) is forgotten");
    for (int word = 100; word <= 102; word++) {
      SyllableMaker x = by(FIVE + "word b;word c;word d;", "");
      due("forget(" + word + ")", x.forget(word), 2);
      int[] left = {word == 100 ? C : B, word == 102 ? C : D};
      for (int i = 0; i <= 1; i++) due("at(" + (100 + i) + ", 0)", x.at(100 + i, 0), left[i]);
      due("undo()", x.undo(), 0);
      for (int i = 0; i <= 2; i++) due("at(" + (100 + i) + ", 0)", x.at(100 + i, 0), B + i);
    }
  }

  private static void costOfEachName() {
    holds("Promise 29: cost", "A cost (0 bare, 1 shut, 2 rough, 3 wild, 4 burst, 5 clash)");
    String[] words = {"a", "bab", "bca", "cba", "babb", "baabaa"};
    for (int which = 0; which < 6; which++) for (int other = 0; other < 6; other++) {
      SyllableMaker x = by(FIVE + "rise 1;close 1 0;", words[which]);
      due("cost(" + other + ", 7)", x.cost(other, 7), 0);
      int shut = other == 1 ? which == 1 ? 7 : which == 4 ? 14 : 0 : 0;
      due(words[which] + " by cost " + other, x.word(0, 3), other == 1 ? shut : other == which ? 7 : 0);
    }
  }

  // ---- what is not promised

  private static void askingChangesNothing() {
    holds("Not promised", "Nothing is promised beyond the answers and state changes described above");
    SyllableMaker x = by(DEAR + "word babba;word cba;word e;", "abba abb a bb eadc");
    x.learn(4);
    x.forget(100);
    x.cost(4, 7);
    put(x, "rise");
    int[] first = answers(x, false);
    int[] backwards = answers(x, true);
    for (int i = 0; i < first.length; i++) due("asked again, " + i, backwards[i], first[i]);
  }

  private static void twoObjectsShareNothing() {
    holds("Not promised", "How the state is held inside the object is free");
    SyllableMaker x = by(DEAR + "word babba;", "abba a");
    int[] alone = answers(x, false);
    SyllableMaker y = by("sound z 1;sound u 4 peak;word zzu;help u;close 0 0;", "uz zzuz");
    y.learn(1);
    y.cost(0, 7);
    put(y, "!");
    answers(y, false);
    int[] beside = answers(x, false);
    for (int i = 0; i < alone.length; i++) due("beside another one, " + i, beside[i], alone[i]);
  }

  /** Of questions of each kind the answers; they are asked in their order, or from the last one on. */
  private static int[] answers(SyllableMaker x, boolean backwards) {
    int[] all = new int[40 * 9];
    for (int i = 0; i < all.length; i++) {
      int at = backwards ? all.length - 1 - i : i;
      all[at] = answer(x, at % 40, at / 40);
    }
    return all;
  }

  private static int answer(SyllableMaker x, int question, int n) {
    int word = n < 5 ? n : 95 + n;
    switch (question) {
      case 0: case 1: case 2: case 3: case 4: case 5: return x.word(word, question);
      case 6: case 7: case 8: case 9: case 10: case 11: case 12: return x.syllable(word, n % 3, 0, question - 6);
      case 13: return x.syllable(word, 2, 1, 0);
      case 14: return x.judge(word, n, 0);
      case 15: return x.judge(word, 0, 2);
      case 16: return x.within(word, n);
      case 17: return x.rhyme(n, 1);
      case 18: return x.mend(word, NONE);
      case 19: return x.mend(word, 0);
      case 20: return x.far(word, 0);
      case 21: return x.nearest(word);
      case 22: return x.parts(word);
      case 23: return x.hills(word);
      case 24: return x.joins(n);
      case 25: return x.speech(n);
      case 26: return x.misfits(2 + n % 3, 1);
      case 27: return x.beat(n % 3);
      case 28: return x.possible(n);
      case 29: return x.tally(n % 3, NONE, 0);
      case 30: return x.tally(n % 3, 0, 2);
      case 31: return x.made(n, 2, NONE);
      case 32: return x.made(n, 3, 1);
      case 33: return x.about(n);
      case 34: return x.about(10 + n);
      case 35: return x.fault(n);
      case 36: return x.sound(n, 0);
      case 37: return x.opening(B, B, n, -1);
      case 38: return x.at(word, 1);
      default: return x.syllable(word, 1, 1, 3);
    }
  }
}
