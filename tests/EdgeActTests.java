/** The edges of what can be, what is made, and of ACTS: a test for each sentence that names one. */
public final class EdgeActTests extends Edges {
  private static final int BLANKS = 0x20202020;

  private EdgeActTests() { }

  public static void main(String[] args) throws Exception {
    run(EdgeActTests.class);
  }

  // ---- the object

  private static void none() {
    holds(TERMS, "`NONE = -1`: There is none; refused.");
    due("NONE", SyllableMaker.NONE, -1);
    due("refused", new SyllableMaker().undo(), -1);
  }

  private static void callsOfOneObject() {
    holds("What it is", "An object is used for at most 512 calls after it has been made");
    SyllableMaker x = new SyllableMaker();
    for (int turn = 0; turn < 11; turn++) {
      for (int i = 1; i <= 45; i++) due("feed", x.feed(BLANKS, BLANKS, BLANKS, BLANKS, BLANKS), 20 * i);
      due("law()", x.law(), 0);
    }
    // 506 calls so far; "sound a 9 peak;", "a"
    due("the 507th call", x.feed(0x736f756e, 0x64206120, 0x39207065, 0x616b3b20, BLANKS), 20);
    due("the 508th call", x.law(), 1);
    due("the 509th call", x.feed(0x61202020, BLANKS, BLANKS, BLANKS, BLANKS), 20);
    due("the 510th call", x.say(), 1);
    due("the 511th call", x.learn(0), 100);
    due("the 512th call", x.made(0, 4, NONE), 4);
  }

  // ---- promises 24 to 26: what can be, what is made

  private static void possibleOfOneToSix() {
    holds("Promise 24: possible", "How many unlike SYLLABLES of n SOUNDS (1 .. 6) have a LEGAL OPENING and CLOSING");
    // OPENINGS 1, 1 (b), 0 ..; CLOSINGS 1, 1; HEARTS 1 (a), 1 (aa)
    SyllableMaker x = by("sound a 9 peak;sound b 1;close 1 0;", "");
    int[] few = {1, 3, 3, 1, 0, 0};
    for (int n = 1; n <= 6; n++) due("possible(" + n + ")", x.possible(n), few[n - 1]);
    // OPENINGS and CLOSINGS of up to four b: one each
    SyllableMaker y = by("sound a 9 peak;sound b 1;rise 0;", "");
    int[] all = {1, 3, 5, 7, 9, 9};
    for (int n = 1; n <= 6; n++) due("by rise 0, possible(" + n + ")", y.possible(n), all[n - 1]);
    // fifteen SOUNDS that all may stand beside one another
    StringBuilder law = new StringBuilder("sound a 9 peak;rise 0;");
    for (char c = 'b'; c <= 'p'; c++) law.append("sound ").append(c).append(" 1;");
    due("the most", by(law.toString(), "").possible(6), 4 * 15 * 15 * 15 * 15 * 15 + 5 * 15 * 15 * 15 * 15);
    // no PEAKS; no others
    due("no PEAKS", by("sound b 1;rise 0;", "").possible(3), 0);
    SyllableMaker z = by("sound a 1 peak;sound e 1 peak;glide ae;", "");
    int[] peaks = {2, 3, 0, 0, 0, 0};
    for (int n = 1; n <= 6; n++) due("PEAKS alone, possible(" + n + ")", z.possible(n), peaks[n - 1]);
    due("no SOUNDS", new SyllableMaker().possible(1), 0);
  }

  private static void possibleByRiseAndFall() {
    holds(TERMS, "A CLOSING is LEGAL, if it has no more SOUNDS than close tells, and they fall so.");
    // the first SOUND is no PEAK; b 1, c 2, d 4: rise 2 leaves bd, cd; fall 1 leaves cb, db, dc, dcb
    SyllableMaker x = by("sound b 1;sound a 9 peak;sound c 2;sound d 4;rise 2;close 4 1;", "");
    // OPENINGS 1, 3, 2, 0, 0; CLOSINGS 1, 3, 3, 1, 0
    due("possible(1)", x.possible(1), 1);
    due("possible(2)", x.possible(2), 3 + 3 + 1);
    due("possible(3)", x.possible(3), (2 + 9 + 3) + (3 + 3));
    due("possible(4)", x.possible(4), (2 * 3 + 3 * 3 + 1) + (2 + 9 + 3));
    due("possible(5)", x.possible(5), (2 * 3 + 3) + (2 * 3 + 3 * 3 + 1));
    due("possible(6)", x.possible(6), 2 + (2 * 3 + 3));
    // told ones that rise, that do not, of two, of three
    SyllableMaker y = by("sound b 1;sound a 9 peak;sound c 2;sound d 4;rise 2;close 0 0;open bd;open cb;open bbb;", "");
    int[] want = {1, 3 + 1, 3 + 3, 1 + 3, 1, 0};
    for (int n = 1; n <= 6; n++) due("told, possible(" + n + ")", y.possible(n), want[n - 1]);
    due("told, the first and the twelfth", by("sound b 1;sound a 9 peak;close 0 0;open bb;", "").possible(3), 1 + 1);
  }

  private static void possibleUnlikeOnes() {
    holds("Promise 24: possible", "(a HEART of one or two SOUNDS)");
    // bb is told, LEARNT and RISING: it is one; bbbbb begins a word, and is none
    SyllableMaker x = by("sound a 9 peak;sound b 1;close 0 0;rise 0;open bb;word bba;word bba;word bbbbba;", "");
    int[] want = {1, 2, 2, 2, 2, 1};
    for (int n = 1; n <= 6; n++) due("possible(" + n + ")", x.possible(n), want[n - 1]);
    // LEARNT alone: of words with HEARTS
    SyllableMaker y = by("sound a 9 peak;sound b 1;close 0 0;word bba;word bb;word bbbb;word bba;", "");
    due("possible(2)", y.possible(2), 2);
    due("possible(3)", y.possible(3), 2);
    due("possible(4)", y.possible(4), 1);
    due("possible(5)", y.possible(5), 0);
    due("LEARNT of the second word, of the third", by("sound a 9 peak;sound b 1;sound c 1;close 0 0;word a;word bba;word cca;word bba;", "").possible(3), 2 + 2);
  }

  private static void possibleOfAnotherN() {
    holds("Promise 24: possible", "NONE for another n.");
    SyllableMaker x = by(FIVE + "rise 0;", "");
    for (int n : new int[] {-1, 0, 7, 8, LEAST, MOST}) due("possible(" + n + ")", x.possible(n), NONE);
    due("no SOUNDS", new SyllableMaker().possible(0), NONE);
    due("no SOUNDS", new SyllableMaker().possible(7), NONE);
  }

  private static void tallyInOrder() {
    holds(TERMS, "they are numbered in the order in which they come (word by word, SYLLABLE by SYLLABLE)");
    SyllableMaker x = by(FIVE + "word cadebe;word b;word eab;word ca;", "dada");
    // c-a-, d-e-, b-e-; none; -e-, -a-b; c-a-
    due("OPENINGS", x.tally(0, NONE, 0), 4);
    due("the first, c", x.tally(0, 0, 2), C);
    due("how often", x.tally(0, 0, 0), 2);
    due("the second, d", x.tally(0, 1, 2), D);
    due("the third, b", x.tally(0, 2, 2), B);
    due("the fourth, of none", x.tally(0, 3, 1), 0);
    due("how often", x.tally(0, 3, 0), 2);
    due("by PLAIN CUT: ab.ba has two CLOSINGS", by(FIVE + "word abba;", "").tally(2, NONE, 0), 2);
    due("by PLAIN CUT: an OPENING of none, of b", by(FIVE + "word abba;", "").tally(0, 1, 1), 1);
    due("the first HEART", x.tally(1, 0, 2), A);
    due("the second HEART", x.tally(1, 1, 2), E);
    due("how often", x.tally(1, 0, 0) * 10 + x.tally(1, 1, 0), 33);
    due("CLOSINGS", x.tally(2, NONE, 0), 2);
    due("none, how often", x.tally(2, 0, 0), 5);
    due("b, how often", x.tally(2, 1, 0), 1);
    // by ACTS it is another one
    x.forget(100);
    due("the first is of none", x.tally(0, 0, 1), 0);
    x.learn(0);
    due("d is the last", x.tally(0, 2, 2), D);
    due("d is there twice", x.tally(0, 2, 0), 2);
  }

  private static void tallyOfNothing() {
    holds("Promise 25: tally", "how many unlike ones (i NONE, what no matter)");
    SyllableMaker x = by(FIVE + "word b;", "ba");
    for (int sort = 0; sort <= 2; sort++) {
      for (int what : new int[] {-2, -1, 0, 14, LEAST, MOST}) due("no SYLLABLES, " + what, x.tally(sort, NONE, what), 0);
    }
    x.learn(0);
    for (int sort = 0; sort <= 2; sort++) {
      for (int what : new int[] {-2, -1, 0, 14, LEAST, MOST}) due("one SYLLABLE, " + what, x.tally(sort, NONE, what), 1);
    }
    // the most: twenty words of six SYLLABLES, all OPENINGS unlike but for some
    SyllableMaker y = by(FIVE + "word aeaeaeaeaeae;".repeat(20), "");
    due("240 SYLLABLES: OPENINGS", y.tally(0, NONE, 0), 1);
    due("how often", y.tally(0, 0, 0), 240);
    due("HEARTS", y.tally(1, NONE, 0), 2);
    due("how often", y.tally(1, 1, 0), 120);
    dueEightyOpenings();
  }

  /** Twenty words of four SYLLABLES, of which each has an OPENING of two SOUNDS of its own. */
  private static void dueEightyOpenings() {
    StringBuilder law = new StringBuilder("sound a 9 peak;rise 0;");
    for (char c = 'b'; c <= 'k'; c++) law.append("sound ").append(c).append(" 1;");
    for (int i = 0; i < 80; i++) {
      law.append(i % 4 == 0 ? "word " : "").append((char) ('b' + i / 10)).append((char) ('b' + i % 10)).append(i % 4 == 3 ? "a;" : "a");
    }
    SyllableMaker x = by(law.toString(), "");
    due("eighty OPENINGS", x.tally(0, NONE, 0), 80);
    for (int i = 0; i < 80; i++) {
      due("how often " + i, x.tally(0, i, 0), 1);
      due("its first SOUND", x.tally(0, i, 2), 1 + i / 10);
      due("its second SOUND", x.tally(0, i, 3), 1 + i % 10);
    }
    due("behind the last", x.tally(0, 80, 0), NONE);
  }

  private static void tallyThereIsNot() {
    holds("Promise 25: tally", "1: how many SOUNDS, 2 + j: its j-th SOUND (NONE: none such). NONE if there is none such, or for another sort, what.");
    SyllableMaker x = by(FIVE + "word bcdbcdbcdbca;word abcdbcdbcdbc;", "");
    due("an OPENING of eleven", x.tally(0, 0, 1), 11);
    due("its first SOUND", x.tally(0, 0, 2), B);
    due("its last SOUND", x.tally(0, 0, 12), C);
    due("a CLOSING of eleven", x.tally(2, 1, 1), 11);
    due("its last SOUND", x.tally(2, 1, 12), C);
    due("one of no SOUNDS", x.tally(0, 1, 1), 0);
    due("it has no first one", x.tally(0, 1, 2), NONE);
    for (int what : new int[] {13, 14, 19, MOST, -1, -2, LEAST}) due("tally(0, 0, " + what + ")", x.tally(0, 0, what), NONE);
    for (int i : new int[] {-2, 2, 3, 240, LEAST, MOST}) for (int what = 0; what <= 2; what++) due("tally(0, " + i + ", " + what + ")", x.tally(0, i, what), NONE);
    for (int sort : new int[] {-1, 3, LEAST, MOST}) for (int i = -1; i <= 1; i++) due("tally(" + sort + ", " + i + ", 0)", x.tally(sort, i, 0), NONE);
    due("nothing is learnt", by(FIVE, "ba").tally(0, 0, 0), NONE);
  }

  /** What is MADE, by the document's words; each row of the TALLY is written out as often as it is there. */
  private static String madeBy(int seed, int n, String[][] rows) {
    StringBuilder made = new StringBuilder();
    for (int turn = 0; turn < 3 * n; turn++) {
      seed = seed * 1103515245 + 12345;
      made.append(rows[turn % 3][(seed >>> 16) % rows[turn % 3].length]);
    }
    return made.toString();
  }

  private static void madeByWrappingSeeds() {
    holds(TERMS, "the seed becomes seed * 1103515245 + 12345 (an int, wrapping), (seed >>> 16) % how many there are in all tells which (of the TALLY by numbers, each as often as it is there)");
    SyllableMaker x = by(FIVE + "word ba;word cec;word cebb;", "");
    String[][] rows = {{"b", "c", "c"}, {"a", "e", "e"}, {"", "c", "bb"}};
    for (int seed : new int[] {0, 1, -1, 2, 12345, LEAST, MOST, LEAST + 1, 1 << 16, -1103515245}) for (int n = 1; n <= 4; n++) {
      String want = madeBy(seed, n, rows);
      due("made(" + seed + ", " + n + ", NONE)", x.made(seed, n, NONE), want.length());
      for (int i = 0; i < want.length(); i++) due("made(" + seed + ", " + n + ", " + i + ")", x.made(seed, n, i), "aebc".indexOf(want.charAt(i)));
      due("made(" + seed + ", " + n + ", behind)", x.made(seed, n, want.length()), NONE);
    }
  }

  private static void madeOfOneToFour() {
    holds("Promise 26: made", "MADE of n (1 .. 4) SYLLABLES by a seed: how many SOUNDS (i NONE), the i-th");
    SyllableMaker x = by(FIVE + "word ba;", "");
    for (int n = 1; n <= 4; n++) {
      due("made(7, " + n + ", NONE)", x.made(7, n, NONE), 2 * n);
      due("the first", x.made(7, n, 0), B);
      due("the last", x.made(7, n, 2 * n - 1), A);
    }
    // the most SOUNDS: four of twelve
    SyllableMaker y = by(FIVE + "word bcdbcdbcdbca;", "");
    due("four of twelve", y.made(7, 4, NONE), 48);
    due("the 48th", y.made(7, 4, 47), A);
    due("there is no 49th", y.made(7, 4, 48), NONE);
  }

  private static void madeThereIsNot() {
    holds("Promise 26: made", "NONE if there is none such, no SYLLABLE is learnt, or for another n.");
    SyllableMaker x = by(FIVE + "word ba;", "ba");
    for (int n : new int[] {-1, 0, 5, 6, LEAST, MOST}) for (int i = -1; i <= 1; i++) due("made(7, " + n + ", " + i + ")", x.made(7, n, i), NONE);
    for (int i : new int[] {-2, 2, 3, LEAST, MOST}) due("made(7, 1, " + i + ")", x.made(7, 1, i), NONE);
    x.forget(100);
    due("none is learnt", x.made(7, 1, NONE), NONE);
    due("none is learnt, the first", x.made(7, 1, 0), NONE);
    SyllableMaker y = by(FIVE + "word b;word cc;", "ba");
    due("words without SYLLABLES", y.made(7, 1, NONE), NONE);
    y.learn(0);
    due("one is learnt", y.made(7, 1, NONE), 2);
  }

  // ---- promises 27 to 31: ACTS

  private static void learntBehindAll() {
    holds(TERMS, "ACTS: a WORD of SPEECH is learnt (behind all), a word is forgotten (those behind it count one less), a cost becomes another one.");
    SyllableMaker x = by(FIVE + "word a;word b;word c;", "d e");
    due("learn(1)", x.learn(1), 103);
    due("behind all", x.at(103, 0), E);
    due("forget(101)", x.forget(101), 3);
    int[] left = {A, C, E};
    for (int i = 0; i < 3; i++) due("at(" + (100 + i) + ", 0)", x.at(100 + i, 0), left[i]);
    due("the last is gone", x.at(103, 0), NONE);
    due("learn(0)", x.learn(0), 103);
    due("forget(100), the first", x.forget(100), 3);
    due("at(100, 0)", x.at(100, 0), C);
    due("forget(102), the last", x.forget(102), 2);
    due("at(101, 0)", x.at(101, 0), E);
    due("at(102, 0)", x.at(102, 0), NONE);
  }

  private static void learnRefused() {
    holds("Promise 27: learn", "NONE, doing nothing, if there is none such, or 20 are learnt.");
    SyllableMaker x = by(FIVE + "word a;".repeat(18), "ba ca");
    for (int k : new int[] {-1, 2, 7, 8, 100, LEAST, MOST}) due("learn(" + k + ")", x.learn(k), NONE);
    due("no ACT", x.about(5), 0);
    due("the nineteenth", x.learn(0), 118);
    due("the twentieth", x.learn(1), 119);
    due("the twenty-first", x.learn(0), NONE);
    due("about(3)", x.about(3), 20);
    due("about(5)", x.about(5), 2);
    due("the last", x.at(119, 0), C);
    due("forget(100)", x.forget(100), 19);
    due("now there is room", x.learn(0), 119);
    due("no SPEECH", by(FIVE, "").learn(0), NONE);
    // one that is learnt already is learnt again
    SyllableMaker y = by(FIVE + "word ba;", "ba");
    due("once more", y.learn(0), 101);
    due("and once more", y.learn(0), 102);
  }

  private static void forgetRefused() {
    holds("Promise 28: forget", "how many are left; NONE, doing nothing, if there is none such.");
    SyllableMaker x = by(FIVE + "word a;word b;", "a b");
    for (int word : new int[] {-1, 0, 1, 99, 102, 119, 120, LEAST, MOST}) due("forget(" + word + ")", x.forget(word), NONE);
    due("no ACT", x.about(5), 0);
    due("about(3)", x.about(3), 2);
    due("about(4)", x.about(4), 2);
    due("the last", x.forget(101), 1);
    due("it is gone", x.forget(101), NONE);
    due("the only one", x.forget(100), 0);
    due("none is left", x.forget(100), NONE);
    due("about(5)", x.about(5), 2);
    SyllableMaker y = by(FIVE + "word a;".repeat(20), "");
    due("the twentieth", y.forget(119), 19);
    due("all of them", y.forget(119), NONE);
    for (int left = 18; left >= 0; left--) due("the first", y.forget(100), left);
  }

  private static void costRefused() {
    holds("Promise 29: cost", "becomes n (0 .. 999): what it was; NONE, doing nothing, if one can't be, or it is that.");
    SyllableMaker x = by(FIVE + "cost bare 7;", "a");
    for (int which : new int[] {-1, 6, 10, LEAST, MOST}) due("cost(" + which + ", 1)", x.cost(which, 1), NONE);
    for (int which = 0; which < 6; which++) {
      for (int n : new int[] {-1, 1000, LEAST, MOST}) due("cost(" + which + ", " + n + ")", x.cost(which, n), NONE);
    }
    due("it is that", x.cost(0, 7), NONE);
    due("it is that, 0", x.cost(5, 0), NONE);
    due("no ACT", x.about(5), 0);
    due("about(10)", x.about(10), 7);
    due("the most", x.cost(0, 999), 7);
    due("COST", x.word(0, 3), 999);
    due("it is that now", x.cost(0, 999), NONE);
    due("the least", x.cost(0, 0), 999);
    due("back", x.cost(0, 7), 0);
    due("about(5)", x.about(5), 3);
    for (int which = 1; which < 6; which++) {
      due("cost(" + which + ", 999)", x.cost(which, 999), 0);
      due("cost(" + which + ", 0)", x.cost(which, 0), 999);
    }
  }

  private static void undoOfTheLatest() {
    holds(TERMS, "UNDO takes back the latest that was not; 12 are kept, the oldest go.");
    SyllableMaker x = by(FIVE + "word a;", "ba");
    for (int i = 1; i <= 12; i++) x.cost(0, i);
    due("twelve", x.about(5), 12);
    due("undo()", x.undo(), 11);
    due("about(10)", x.about(10), 11);
    due("one more", x.cost(0, 20), 11);
    due("twelve", x.about(5), 12);
    due("a thirteenth", x.cost(0, 21), 20);
    due("twelve are kept", x.about(5), 12);
    for (int left = 11; left >= 0; left--) due("undo()", x.undo(), left);
    due("the oldest is gone", x.about(10), 1);
    due("undo()", x.undo(), NONE);
    due("about(10)", x.about(10), 1);
    dueThirteenMixed();
    // many more than twelve
    for (int i = 0; i < 400; i++) x.cost(1, i % 2 + 1);
    for (int left = 11; left >= 0; left--) due("undo()", x.undo(), left);
    due("about(11)", x.about(11), 2);
    due("undo()", x.undo(), NONE);
  }

  /** The oldest of thirteen goes; the twelve others, of all kinds, are taken back one by one. */
  private static void dueThirteenMixed() {
    SyllableMaker x = by(FIVE + "cost bare 3;cost shut 4;cost rough 5;word a;word b;word c;word d;", "e");
    x.cost(1, 44);
    x.forget(100);
    x.learn(0);
    x.forget(101);
    x.cost(2, 55);
    x.forget(100);
    x.learn(0);
    x.cost(0, 33);
    x.forget(101);
    x.forget(100);
    x.cost(2, 66);
    x.forget(100);
    due("no words are left", x.about(3), 0);
    due("twelve", x.about(5), 12);
    due("the thirteenth", x.learn(0), 100);
    // how many words, and the first of them, behind each UNDO
    int[] count = {0, 1, 1, 2, 3, 3, 2, 3, 3, 4, 3, 4};
    int[] first = {NONE, E, E, D, D, D, D, B, B, B, B, A};
    int[] bare = {33, 33, 33, 33, 33, 3, 3, 3, 3, 3, 3, 3};
    int[] rough = {66, 66, 55, 55, 55, 55, 55, 55, 5, 5, 5, 5};
    for (int i = 0; i < 12; i++) {
      due("undo()", x.undo(), 11 - i);
      due("words behind UNDO " + i, x.about(3), count[i]);
      due("the first behind UNDO " + i, x.at(100, 0), first[i]);
      due("bare behind UNDO " + i, x.about(10), bare[i]);
      due("shut is not taken back", x.about(11), 44);
      due("rough behind UNDO " + i, x.about(12), rough[i]);
    }
    due("the oldest went", x.undo(), NONE);
    int[] all = {A, B, C, D};
    for (int i = 0; i < 4; i++) due("at(" + (100 + i) + ", 0)", x.at(100 + i, 0), all[i]);
    // words are forgotten by the oldest and by the latest of the twelve that are kept
    SyllableMaker y = by(FIVE + "word b;word c;", "");
    y.cost(0, 1);
    y.forget(100);
    for (int i = 2; i <= 11; i++) y.cost(0, i);
    y.forget(100);
    for (int left = 11; left >= 0; left--) due("undo()", y.undo(), left);
    due("at(100, 0)", y.at(100, 0), B);
    due("at(101, 0)", y.at(101, 0), C);
    due("about(10)", y.about(10), 1);
  }

  private static void undoOfWords() {
    holds("Promise 30: undo", "UNDO: how many more can be; NONE if none can.");
    SyllableMaker x = by(FIVE + "word a;word b;word cab;", "da");
    due("nothing to take back", x.undo(), NONE);
    x.forget(100);
    x.forget(101);
    x.learn(0);
    due("undo() of learn", x.undo(), 2);
    due("about(3)", x.about(3), 1);
    due("undo() of forget, the last", x.undo(), 1);
    due("cab is back", x.at(101, 2), B);
    due("undo() of forget, the first", x.undo(), 0);
    int[] all = {A, B, C};
    for (int i = 0; i < 3; i++) due("at(" + (100 + i) + ", 0)", x.at(100 + i, 0), all[i]);
    due("nothing more", x.undo(), NONE);
    due("an UNDO is none of ACTS", x.about(5), 0);
    // the last but one of twenty is forgotten and comes back: twenty again
    SyllableMaker y = by(FIVE + "word a;".repeat(19) + "word bcabcabcabca;", "e");
    y.forget(119);
    y.learn(0);
    due("twenty", y.learn(0), NONE);
    due("undo()", y.undo(), 1);
    due("undo()", y.undo(), 0);
    due("the twentieth", y.word(119, 0), 12);
    due("its last SOUND", y.at(119, 11), A);
    due("twenty", y.learn(0), NONE);
  }

  private static void aboutAll() {
    holds("Promise 31: about", "What 0: SOUNDS, 1: OPENINGS that are told, 2: glides, 3: words that are learnt, 4: WORDS of SPEECH, 5: ACTS that can be undone, 6: bytes on the TAPE");
    SyllableMaker x = new SyllableMaker();
    for (int what = 0; what <= 7; what++) due("a new one, about(" + what + ")", x.about(what), 0);
    StringBuilder law = new StringBuilder(sounds(16));
    for (int i = 0; i < 12; i++) law.append("open g").append((char) ('g' + i % 10)).append(i < 10 ? ";" : "g;");
    law.append("glide ab;glide ba;glide ac;glide ad;glide ae;glide af;").append("word a;".repeat(20));
    law(x, law.toString());
    say(x, "a b c d e f g h");
    for (int i = 0; i < 13; i++) x.cost(0, i + 1);
    put(x, " ".repeat(900));
    int[] most = {16, 12, 6, 20, 8, 12, 900, 0};
    for (int what = 0; what <= 7; what++) due("all full, about(" + what + ")", x.about(what), most[what]);
  }

  private static void aboutLearntOpenings() {
    holds("Promise 31: about", "7: LEARNT OPENINGS of 2 .. 4 SOUNDS (unlike ones)");
    due("of 0, 1", by(FIVE + "word a;word ba;word ab;", "").about(7), 0);
    due("of 2", by(FIVE + "word bca;", "").about(7), 1);
    due("of 4", by(FIVE + "word bcdba;", "").about(7), 1);
    due("of 5", by(FIVE + "word bcdbca;", "").about(7), 0);
    due("alike ones", by(FIVE + "word bca;word bcab;word bce;", "").about(7), 1);
    due("alike ones behind an unlike one", by(FIVE + "word cba;word bca;word bca;", "").about(7), 2);
    due("unlike ones", by(FIVE + "word bca;word cba;word bcba;", "").about(7), 3);
    due("without HEARTS", by(FIVE + "word bc;word bcb;", "").about(7), 0);
    // told and RISING ones are LEARNT, too
    due("told, too", by(FIVE + "open bc;rise 1;word bca;word bda;", "").about(7), 2);
    StringBuilder law = new StringBuilder(FIVE);
    String[] rows = "bb bc bd cb cc cd db dc dd bbb bbc bbd bcb bcc bcd bdb bdc bdd cbb cbc".split(" ");
    for (String row : rows) law.append("word ").append(row).append("a;");
    SyllableMaker x = by(law.toString(), "bbbba");
    due("twenty", x.about(7), 20);
    x.forget(119);
    due("one less", x.about(7), 19);
    x.learn(0);
    due("one more", x.about(7), 20);
  }

  private static void aboutCosts() {
    holds("Promise 31: about", "10 .. 15: costs. NONE for another what.");
    SyllableMaker x = by("cost bare 1;cost shut 2;cost rough 3;cost wild 4;cost burst 5;cost clash 6;", "");
    for (int what = 10; what <= 15; what++) due("about(" + what + ")", x.about(what), what - 9);
    for (int what : new int[] {-1, 8, 9, 16, 17, LEAST, LEAST + 10, MOST}) due("about(" + what + ")", x.about(what), NONE);
  }
}
