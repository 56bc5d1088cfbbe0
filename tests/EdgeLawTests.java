/** The edges of the TAPE, the LAW and of what is said: a test for each sentence that names one. */
public final class EdgeLawTests extends Edges {
  private static final int AT = FIVE.length();

  private EdgeLawTests() { }

  public static void main(String[] args) throws Exception {
    run(EdgeLawTests.class);
  }

  /** A FAULT of what stands behind FIVE: its place from there on. */
  private static void dueFaultBehind(String lines, int fault, int place) {
    dueFault(FIVE + lines, fault, AT + place);
  }

  private static void dueRightBehind(String lines) {
    dueRight(FIVE + lines, 5);
  }

  // ---- Terms 1: TOKENS

  private static void lawOf900Bytes() {
    holds(TERMS, "A LAW is a text of at most 900 bytes");
    String line = "sound a 9 peak;";
    dueRight(line + " ".repeat(900 - line.length()), 1);
    dueRight(" ".repeat(900 - line.length()) + line, 1);
    dueFault(" ".repeat(900 - line.length() - 1) + line + ";", 2, 899);
    dueFault(" ".repeat(895) + "sound", 2, 900);
    dueFault(" ".repeat(899) + "!", 1, 899);
  }

  private static void lawOfNoLines() {
    holds(TERMS, "{line}, line = sound ROW N [peak] ;");
    dueRight("", 0);
    dueRight(" ", 0);
    dueRight("sound a 9;", 1);
    dueRight("sound a 9 peak;", 1);
    dueFault("sound a 9 peak peak;", 2, 15);
  }

  private static void lettersOfRows() {
    holds(TERMS, "rows of letters (a .. z, 12 at most)");
    dueRight("sound a 1;sound z 2;", 2);
    dueFault("sound " + (char) ('a' - 1) + " 1;", 1, 6);
    dueFault("sound " + (char) ('z' + 1) + " 1;", 1, 6);
    dueFault("sound A 1;", 1, 6);
    dueFault("sound Z 1;", 1, 6);
    // twelve are a TOKEN that is too long there, thirteen are none
    dueFault("sound " + "a".repeat(12) + " 1;", 4, 6);
    dueFault("sound " + "a".repeat(13) + " 1;", 1, 6);
    SyllableMaker x = by("sound a 1;word aaaaaaaaaaaa;", "aaaaaaaaaaaa");
    due("twelve letters in a LAW", x.word(100, 0), 12);
    due("twelve letters in SPEECH", x.word(0, 0), 12);
    due("thirteen letters in SPEECH", say(x, "a".repeat(13)), NONE);
    due("fault(0)", x.fault(0), 1);
  }

  private static void digitsOfNumbers() {
    holds(TERMS, "numbers (1 to 3 digits)");
    due("one digit", by("cost bare 7;", "").about(10), 7);
    due("two digits", by("cost bare 70;", "").about(10), 70);
    due("three digits", by("cost bare 709;", "").about(10), 709);
    due("zeros ahead", by("cost bare 007;", "").about(10), 7);
    dueFault("cost bare 0007;", 1, 10);
    dueFault("cost bare 1000;", 1, 10);
    dueRight("rise 0;", 0);
    dueRight("rise 9;", 0);
    dueFault("rise " + (char) ('0' - 1) + ";", 1, 5);
    dueFault("rise " + (char) ('9' + 1) + ";", 1, 5);
  }

  private static void theSign() {
    holds(TERMS, "the sign ;. Blanks (32, 10) part them or not");
    dueRight("rise 1;", 0);
    dueFault("rise 1" + (char) (';' - 1), 1, 6);
    dueFault("rise 1" + (char) (';' + 1), 1, 6);
    // no blanks, many, both kinds
    dueRight("rise1;move1;close4 0;", 0);
    dueRight("  \n\n rise\n\n1  ;\n move 1 \n; ", 0);
    for (int other : new int[] {0, 9, 11, 12, 13, 31, 33, 127, 128, 160, 255}) {
      dueFault("rise" + (char) other + "1;", 1, 4);
    }
  }

  private static void asLongAsCanBe() {
    holds(TERMS, "each is as long as can be");
    dueFault("risemove 1;", 2, 0);
    dueFault("soundb 1;", 2, 0);
    dueFault("sound a 1 peakpeak;", 2, 10);
    // 40 is one number, not 4 and 0
    dueFault("close 40;", 4, 6);
    dueFault("sound a 12;", 4, 8);
    dueFault("weigh 1212;", 1, 6);
  }

  private static void letterBehindDigit() {
    holds(TERMS, "no letter directly behind a digit");
    dueFault("sound a 9peak;", 1, 8);
    dueFault("sound a 9z;", 1, 8);
    dueFault("sound a 9a;", 1, 8);
    dueFault("sound a 009peak;", 1, 8);
    dueRight("sound a 9 peak;", 1);
    dueRight("sound a 9\npeak;", 1);
    dueRight("sound a9;", 1);
    dueRight("sound a 9;sound b 1;", 2);
    // a big letter is none of a .. z: the number is a TOKEN, the letter behind it is none
    dueFault("sound a 9P;", 1, 9);
  }

  private static void noToken() {
    holds(TERMS, "(what is none of these, a longer row, more digits, a number with a letter behind it is no TOKEN, at its first byte)");
    for (int b = 0; b < 256; b++) {
      String law = "rise " + (char) b + ";";
      if (b == ' ' || b == '\n') dueFault(law, 2, 6);
      else if (b == ';' || b >= 'a' && b <= 'z') dueFault(law, 2, 5);
      else if (b >= '0' && b <= '9') dueRight(law, 0);
      else dueFault(law, 1, 5);
    }
    dueFault("rise  abcdefghijklm;", 1, 6);
    dueFault("rise  1234;", 1, 6);
    dueFault("rise  12a;", 1, 6);
    dueFault("rise  1234a;", 1, 6);
    dueFault("!", 1, 0);
  }

  private static void rowsOfAnyKind() {
    holds(TERMS, "ROW: letters of any kind (also such as stand for a line's word).");
    String law = "";
    for (char c : "openwrdmvkalhb".toCharArray()) law += "sound " + c + " 1;";
    SyllableMaker x = by(law + "open open;open word;word open;word word;word peak;word help;", "move bare");
    due("SOUNDS", x.about(0), 14);
    due("open open;", x.opening(0, 1, 2, 3), 2);
    due("word peak;", x.at(102, 3), 9);
    due("move, said", x.at(0, 0), 7);
    // here it is a ROW, there it is the line's word
    dueRight("sound p 1;sound e 1;sound a 1;sound k 1 peak;word peak;", 4);
  }

  // ---- Terms 1: lines

  private static void sixteenSounds() {
    holds(TERMS, "a SOUND (16 at most)");
    SyllableMaker x = by(sounds(16), "");
    due("about(0)", x.about(0), 16);
    due("the sixteenth", x.sound(15, 0), 'p');
    dueFault(sounds(17), 5, sounds(16).length());
    // the fullest number can stand everywhere
    SyllableMaker y = by(sounds(16) + "open pp;word pppa;", "pap");
    due("pp", y.opening(15, 15, -1, -1), 2);
    due("ppp", y.opening(15, 15, 15, -1), 3);
    due("at(0, 2)", y.at(0, 2), 15);
    due("tally(0, 0, 4)", y.tally(0, 0, 4), 15);
  }

  private static void soundOfOneLetter() {
    holds(TERMS, "a ROW of one letter");
    dueRight("sound a 1;", 1);
    dueFault("sound ab 1;", 4, 6);
    dueFault("sound abcdefghijkl 1;", 4, 6);
    dueFault("sound 1;", 2, 6);
  }

  private static void soundFrom0To9() {
    holds(TERMS, "how OPEN it is (0 .. 9)");
    due("the least", by("sound a 0;", "").sound(0, 1), 0);
    due("the most", by("sound a 9;", "").sound(0, 1), 9);
    dueFault("sound a 10;", 4, 8);
    dueFault("sound a 999;", 4, 8);
    dueFault("sound a;", 2, 7);
    dueFault("sound a -1;", 1, 8);
  }

  private static void eachLetterOnce() {
    holds(TERMS, "each letter once");
    dueFault("sound a 1;sound a 1;", 3, 16);
    dueFault("sound a 1;sound b 1;sound a 9 peak;", 3, 26);
    dueFault(sounds(15) + "sound o 1;", 3, sounds(15).length() + 6);
  }

  private static void aheadOfAllRows() {
    holds(TERMS, "ahead of all ROWS with it");
    dueFault("word a;sound a 1;", 3, 5);
    dueFault("open bb;sound b 1;", 3, 5);
    dueFault("glide ae;sound a 1 peak;sound e 1 peak;", 3, 6);
    dueFault("sound a 1 peak;glide ae;sound e 1 peak;", 3, 21);
    dueFault("help a;sound a 1 peak;", 3, 5);
    dueRight("sound a 1;word a;sound b 1;word b;", 2);
  }

  private static String openings(int n) {
    StringBuilder law = new StringBuilder(sounds(16));
    for (int i = 0; i < n; i++) law.append("open g").append((char) ('g' + i % 10)).append(i < 10 ? ";" : "g;");
    return law.toString();
  }

  private static void twelveOpenings() {
    holds(TERMS, "an OPENING that is told (12 at most): 2 .. 4 SOUNDS, no PEAKS");
    SyllableMaker x = by(openings(12), "");
    due("about(1)", x.about(1), 12);
    due("the twelfth", x.opening(6, 7, 6, -1), 2);
    dueFault(openings(12) + "open ggg;", 5, openings(12).length());
    dueFaultBehind("open b;", 4, 5);
    dueRightBehind("open bb;");
    dueRightBehind("open bbbb;");
    dueFaultBehind("open bbbbb;", 4, 5);
    dueFaultBehind("open ab;", 3, 5);
    dueFaultBehind("open bba;", 3, 5);
    dueFaultBehind("open ;", 2, 5);
  }

  private static void sixGlides() {
    holds(TERMS, "two unlike PEAKS that are one together (6 at most)");
    String law = sounds(6) + "glide ab;glide ba;glide ac;glide ad;glide ae;glide af;";
    SyllableMaker x = by(law, "");
    due("about(2)", x.about(2), 6);
    due("the sixth", say(x, "af"), 1);
    due("one HEART", x.word(0, 1), 1);
    dueFault(law + "glide bc;", 5, law.length());
    dueFaultBehind("glide aa;", 4, 6);
    dueFaultBehind("glide a;", 4, 6);
    dueFaultBehind("glide aea;", 4, 6);
    dueFaultBehind("glide ab;", 3, 6);
    dueFaultBehind("glide ba;", 3, 6);
    dueFaultBehind("glide bb;", 3, 6);
    dueRightBehind("glide ae;glide ea;");
  }

  private static void twentyWords() {
    holds(TERMS, "a word that is learnt (20 at most), 1 .. 12 SOUNDS.");
    String law = FIVE + "word b;".repeat(19) + "word abc;";
    SyllableMaker x = by(law, "");
    due("about(3)", x.about(3), 20);
    due("the twentieth", x.word(119, 0), 3);
    due("at(119, 2)", x.at(119, 2), 3);
    dueFault(law + "word a;", 5, law.length());
    due("one SOUND", by(FIVE + "word b;", "").word(100, 0), 1);
    due("twelve SOUNDS", by(FIVE + "word abcabcabcabc;", "").word(100, 0), 12);
    dueFaultBehind("word abcabcabcabca;", 1, 5);
    dueFaultBehind("word ;", 2, 5);
  }

  private static void onceEach() {
    holds(TERMS, "Once each: rise");
    for (String line : new String[] {"rise 1;", "close 4 0;", "weigh 1 2 1 2;", "stress 2;", "stress 2 0;", "help a;", "move 1;"}) {
      dueRightBehind(line);
      dueFaultBehind(line + line, 2, line.length());
    }
    dueRightBehind("word b;word b;cost bare 1;cost shut 1;open bc;open cb;glide ae;glide ea;");
  }

  private static void riseFrom0To9() {
    holds(TERMS, "rise (0 .. 9; no rise without)");
    dueFault("rise 10;", 4, 5);
    dueFault("rise;", 2, 4);
    String law = "sound b 0;sound c 9;sound d 8;";
    due("rise 9, by 9", by(law + "rise 9;", "").opening(0, 1, -1, -1), 4);
    due("rise 9, by 8", by(law + "rise 9;", "").opening(0, 2, -1, -1), 0);
    due("rise 0, by 0", by(law + "rise 0;", "").opening(0, 0, -1, -1), 4);
    due("rise 0, by 1 less", by(law + "rise 0;", "").opening(1, 2, -1, -1), 0);
    due("no rise, by 9", by(law, "").opening(0, 1, -1, -1), 0);
    due("no rise, by 0", by(law, "").opening(0, 0, -1, -1), 0);
    SyllableMaker x = by(law + "rise 0;", "");
    law(x, law);
    due("no rise in the next LAW", x.opening(0, 1, -1, -1), 0);
  }

  /** Whether the last CLOSING of the first WORD is LEGAL. */
  private static boolean closes(String line, String word) {
    return by("sound a 9 peak;sound b 9;sound c 8;sound d 0;" + line, word).judge(0, 0, 1) == NONE;
  }

  private static void dueCloses(String line, String word, boolean want) {
    due(word + " by " + line + " closes", closes(line, word) ? 1 : 0, want ? 1 : 0);
  }

  private static void closeFrom0To4() {
    holds(TERMS, "close (how many closing SOUNDS 0 .. 4, how much less OPEN each is at least than the one ahead, 0 .. 9; 4 and 0 without)");
    dueFault("close 5 0;", 4, 6);
    dueFault("close 4 10;", 4, 8);
    dueFault("close 4;", 2, 7);
    dueFault("close;", 2, 5);
    dueFault("close 4 0 0;", 2, 10);
    dueCloses("close 0 0;", "a", true);
    dueCloses("close 0 0;", "ab", false);
    dueCloses("close 1 0;", "ab", true);
    dueCloses("close 1 0;", "abb", false);
    dueCloses("close 4 0;", "abbbb", true);
    dueCloses("close 4 0;", "abbbbb", false);
    dueCloses("close 4 9;", "abd", true);
    dueCloses("close 4 9;", "acd", false);
    dueCloses("close 4 1;", "abcd", true);
    dueCloses("close 4 1;", "abbd", false);
    dueCloses("close 4 1;", "abdd", false);
    dueCloses("", "abbbb", true);
    dueCloses("", "abbbbb", false);
    dueCloses("", "acb", false);
  }

  private static int weight(String line, String word) {
    return by(FIVE + line, word).syllable(0, 0, 0, 4);
  }

  private static int heavy(String line, String word) {
    return by(FIVE + line, word).syllable(0, 0, 0, 5);
  }

  private static void weighFrom0To99() {
    holds(TERMS, "weigh (of a short PEAK, a long one, a closing SOUND, 0 .. 9 each; from how much on a SYLLABLE is HEAVY, 1 .. 99; 1, 2, 1, 2 without)");
    dueFault("weigh 10 2 1 2;", 4, 6);
    dueFault("weigh 1 10 1 2;", 4, 8);
    dueFault("weigh 1 2 10 2;", 4, 10);
    dueFault("weigh 1 2 1 0;", 4, 12);
    dueFault("weigh 1 2 1 100;", 4, 12);
    dueFault("weigh 1 2 1;", 2, 11);
    dueFault("weigh 1 2 1 2 1;", 2, 14);
    String most = "weigh 9 9 9 99;";
    due("the most, eleven closing", weight(most, "abbbbbbbbbbb"), 108);
    due("99 of 99", heavy(most, "abbbbbbbbbb"), 1);
    due("90 of 99", heavy(most, "abbbbbbbbb"), 0);
    String least = "weigh 0 0 0 1;";
    due("the least", weight(least, "aab"), 0);
    due("0 of 1", heavy(least, "aab"), 0);
    due("1 of 1", heavy("weigh 1 0 0 1;", "a"), 1);
    due("a short one without", weight("", "a"), 1);
    due("a LONG one without", weight("", "aa"), 2);
    due("a closing one without", weight("", "ab"), 2);
    due("1 without", heavy("", "a"), 0);
    due("2 without", heavy("", "aa"), 1);
  }

  private static int stress(String line, String word) {
    return by(FIVE + line, word).word(0, 2);
  }

  private static void stressFrom1To4() {
    holds(TERMS, "stress (1 .. 4, 0 .. 9; 2, 0 without, 0 without the second one)");
    dueFault("stress 0;", 4, 7);
    dueFault("stress 5;", 4, 7);
    dueFault("stress 1 10;", 4, 9);
    dueFault("stress;", 2, 6);
    dueFault("stress 1 0 0;", 2, 11);
    due("stress 1", stress("stress 1;", "bababababa"), 4);
    due("stress 4", stress("stress 4;", "bababababa"), 1);
    due("stress 1 9: the ninth from the end", stress("stress 1 9;", "aaeaeaeaea"), 0);
    due("stress 1 9: the tenth from the end", stress("stress 1 9;", "aaeaeaeaeae"), 9);
    due("without", stress("", "bababababa"), 3);
    due("without: no HEAVY one looked at", stress("", "baababababa"), 3);
    due("without the second one", stress("stress 1;", "baababababa"), 4);
    due("with 0", stress("stress 1 0;", "baababababa"), 4);
    due("with all", stress("stress 1 9;", "baababababa"), 0);
  }

  private static void helpOfOnePeak() {
    holds(TERMS, "help (a PEAK alone)");
    dueRightBehind("help a;");
    dueFaultBehind("help b;", 3, 5);
    dueFaultBehind("help ab;", 3, 5);
    dueFaultBehind("help ae;", 4, 5);
    dueFaultBehind("help aa;", 4, 5);
    dueFaultBehind("help ;", 2, 5);
    dueFaultBehind("help z;", 3, 5);
  }

  private static void moveFrom0To4() {
    holds(TERMS, "move (0 .. 4; 1 without)");
    dueFault("move 5;", 4, 5);
    dueFault("move;", 2, 4);
    String law = FIVE + "rise 0;";
    due("move 0", by(law + "move 0;", "abbbbb a").joins(1), 0);
    due("move 4", by(law + "move 4;", "abbbbb a").joins(1), 4);
    due("without", by(law, "abbbbb a").joins(1), 1);
  }

  private static void costFrom0To999() {
    holds(TERMS, "cost: bare, shut, rough, wild, burst, clash (0 .. 999), once each; 0 without.");
    String[] names = {"bare", "shut", "rough", "wild", "burst", "clash"};
    String all = "";
    for (int i = 0; i < 6; i++) {
      String line = "cost " + names[i] + " ";
      due("the most, " + names[i], by(line + "999;", "").about(10 + i), 999);
      due("the least, " + names[i], by(line + "0;", "").about(10 + i), 0);
      due("without, " + names[i], by("", "").about(10 + i), 0);
      dueFault(line + "1000;", 1, line.length());
      dueFault(line + ";", 2, line.length());
      dueFault(line + "1;" + line + "1;", 2, line.length() + 7);
      all += line + (i + 1) + ";";
    }
    SyllableMaker x = by(all, "");
    for (int i = 0; i < 6; i++) due("about(" + (10 + i) + ")", x.about(10 + i), i + 1);
    dueFault("cost bar 1;", 2, 5);
    dueFault("cost bares 1;", 2, 5);
    law(x, "");
    for (int i = 0; i < 6; i++) due("0 in the next LAW", x.about(10 + i), 0);
  }

  // ---- Terms 1: FAULTS

  private static void firstByPlace() {
    holds(TERMS, "FAULTS, the first by its place (bytes from 0; the end: the text's length)");
    dueFault(";", 2, 0);
    dueFault("!", 1, 0);
    dueFault("sound", 2, 5);
    dueFault("sound  \n", 2, 8);
    dueFault("sound a 9", 2, 9);
    // a worse one behind, a lesser one behind
    dueFault("rise 10;!", 4, 5);
    dueFault("sound a 1;sound a !;", 3, 16);
    dueFault("sound a 10;sound a 1;", 4, 8);
    dueFault(";!", 2, 0);
    dueFault(sounds(16) + "sound !;", 5, sounds(16).length());
  }

  private static void leastAtOnePlace() {
    holds(TERMS, "at one place the least");
    // a letter that is no SOUND (3), and too long, too short (4)
    dueFaultBehind("open zzzzz;", 3, 5);
    dueFaultBehind("open z;", 3, 5);
    dueFaultBehind("glide z;", 3, 6);
    dueFaultBehind("help zz;", 3, 5);
    // a PEAK where it may not be (3), and too long, too short, alike (4)
    dueFaultBehind("open bbbba;", 3, 5);
    dueFaultBehind("open a;", 3, 5);
    dueFaultBehind("glide bb;", 3, 6);
    dueFaultBehind("glide b;", 3, 6);
    dueFaultBehind("help bb;", 3, 5);
    // no TOKEN (1), and what can't stand there, is too long, no number
    dueFaultBehind("abcdefghijklm;", 1, 0);
    dueFaultBehind("open abcdefghijklm;", 1, 5);
    dueFaultBehind("word zzzzzzzzzzzzz;", 1, 5);
    dueFaultBehind("rise 1000;", 1, 5);
    // a number where a ROW must stand (2) is none of 4
    dueFaultBehind("open 999;", 2, 5);
  }

  private static void cannotStandThere() {
    holds(TERMS, "2 one that can't stand there (a line that is told once alone, a cost of one NAME, the second time, too: at its word, at the NAME)");
    dueFault("peak;", 2, 0);
    dueFault("bare 1;", 2, 0);
    // no line's word, no NAME, no peak: but for the first, the last letter, one more
    dueFault("round a 1;", 2, 0);
    dueFault("sounb a 1;", 2, 0);
    dueFault("soun a 1;", 2, 0);
    dueFault("sounds a 1;", 2, 0);
    dueFault("sound a 1 beak;", 2, 10);
    dueFault("sound a 1 pea;", 2, 10);
    dueFault("cost dare 1;", 2, 5);
    dueFault("cost barn 1;", 2, 5);
    // a sign where a ROW must stand
    dueFault("sound ;", 2, 6);
    dueFault("open ;", 2, 5);
    dueFault("glide ;", 2, 6);
    dueFault("help ;", 2, 5);
    dueFault("word ;", 2, 5);
    dueFault("7;", 2, 0);
    dueFault("sound sound;", 4, 6);
    dueFault("sound a sound;", 2, 8);
    dueFault("sound a 1 sound;", 2, 10);
    dueFault("sound a 1 1;", 2, 10);
    dueFault("rise a;", 2, 5);
    dueFault("rise 1 1;", 2, 7);
    dueFault("stress 1 a;", 2, 9);
    dueFault("cost 1 1;", 2, 5);
    dueFault("cost ;", 2, 5);
    dueFault("cost shut;", 2, 9);
    dueFaultBehind("word b b;", 2, 7);
    dueFaultBehind("open bc", 2, 7);
    // the second time: at its word, whatever is behind it; at the NAME
    dueFault("rise 1;rise 10;", 2, 7);
    dueFault("move 1;rise 1;move", 2, 14);
    dueFaultBehind("help a;help z;", 2, 7);
    dueFault("cost bare 1;cost bare 1;", 2, 17);
    dueFault("cost bare 1;cost shut 1;cost bare", 2, 29);
  }

  private static void lettersThatAreFaults() {
    holds(TERMS, "3 a letter (at its ROW) that is told already (sound, of a ROW of one letter alone), that is no SOUND, or a PEAK or none where it may not be");
    dueFaultBehind("sound a 1;", 3, 6);
    dueFaultBehind("sound aa 1;", 4, 6);
    dueFaultBehind("sound ab 1;", 4, 6);
    dueFaultBehind("word bbz;", 3, 5);
    dueFaultBehind("word zbb;", 3, 5);
    dueFaultBehind("open bz;", 3, 5);
    dueFaultBehind("glide az;", 3, 6);
    dueFaultBehind("glide za;", 3, 6);
    dueFaultBehind("help z;", 3, 5);
    dueFaultBehind("open bcda;", 3, 5);
    dueFaultBehind("glide ab;", 3, 6);
    dueFaultBehind("help b;", 3, 5);
    // in a word both may be
    dueRightBehind("word a;word b;word ab;");
  }

  private static void numbersAndRowsThatAreFaults() {
    holds(TERMS, "4 a number that can't be, a ROW that is too short or too long there, or is told already (open, glide), or of two that are alike (glide)");
    dueFault("sound a 10;", 4, 8);
    dueFault("move 5;", 4, 5);
    dueFault("weigh 0 0 0 0;", 4, 12);
    dueFaultBehind("open b;", 4, 5);
    dueFaultBehind("open bcdbc;", 4, 5);
    dueFaultBehind("open bc;open cb;open bc;", 4, 21);
    dueFaultBehind("open bcb;open bcb;", 4, 14);
    // like it, but shorter, longer, turned round
    dueRightBehind("open bc;open bcb;open cb;open bcbc;");
    dueFaultBehind("glide a;", 4, 6);
    dueFaultBehind("glide aee;", 4, 6);
    dueFaultBehind("glide ae;glide ae;", 4, 15);
    dueFaultBehind("glide ee;", 4, 6);
    dueFaultBehind("help aa;", 4, 5);
    // words may be told twice
    dueRightBehind("word abc;word abc;");
  }

  private static void oneTooMany() {
    holds(TERMS, "5 one too many (a sound, open, glide, word: at the line's word).");
    String[] full = {sounds(16), openings(12), sounds(6) + "glide ab;glide ba;glide ac;glide ad;glide ae;glide af;", FIVE + "word a;".repeat(20)};
    String[] more = {"sound", "open", "glide", "word"};
    for (int i = 0; i < 4; i++) {
      // whatever is behind it: a FAULT of its own, the end
      dueFault(full[i] + " " + more[i] + " z;", 5, full[i].length() + 1);
      dueFault(full[i] + more[i] + " 1", 5, full[i].length());
      dueFault(full[i] + more[i], 5, full[i].length());
      dueFault(full[i] + more[i] + "!", 5, full[i].length());
      // what is full of one kind may have another
      dueRight(full[i] + "rise 1;" + (i == 3 ? "" : "word a;"), i < 2 ? 16 : i == 2 ? 6 : 5);
    }
  }

  // ---- promises 1 to 6

  private static void newObject() {
    holds("Promise 1: A new object", "No SOUNDS; no SPEECH.");
    SyllableMaker x = new SyllableMaker();
    due("about(0)", x.about(0), 0);
    due("about(4)", x.about(4), 0);
    due("sound(0, 0)", x.sound(0, 0), NONE);
    due("word(0, 0)", x.word(0, 0), NONE);
    due("speech(0)", x.speech(0), NONE);
    due("joins(0)", x.joins(0), NONE);
    due("about(6)", x.about(6), 0);
    due("about(5)", x.about(5), 0);
    due("end(0)", x.end(0), 0);
    due("possible(1)", x.possible(1), 0);
    due("law of nothing", x.law(), 0);
    due("learnt", new SyllableMaker().word(100, 0), NONE);
    due("undo()", new SyllableMaker().undo(), NONE);
    due("costs", new SyllableMaker().cost(0, 0), NONE);
  }

  private static void feedHighestFirst() {
    holds("Promise 2: feed", "Twenty bytes come behind those on the TAPE, of each number the highest first");
    // "rise" "1;mo" "ve 1" ";   " "    "; then "sound a 1;" behind those
    SyllableMaker x = new SyllableMaker();
    due("feed", x.feed(0x72697365, 0x313b6d6f, 0x76652031, 0x3b202020, 0x20202020), 20);
    due("feed", x.feed(0x736f756e, 0x64206120, 0x313b2020, 0x20202020, 0x2020200a), 40);
    due("law()", x.law(), 1);
    // each of the twenty bytes has its place
    for (int i = 0; i < 20; i++) {
      int[] n = {0x20202020, 0x20202020, 0x20202020, 0x20202020, 0x20202020};
      n[i / 4] ^= (0x20 ^ 0xff) << 24 - i % 4 * 8;
      SyllableMaker y = new SyllableMaker();
      due("feed", y.feed(n[0], n[1], n[2], n[3], n[4]), 20);
      due("law()", y.law(), NONE);
      due("fault(0)", y.fault(0), 1);
      due("fault(1) of byte " + i, y.fault(1), i);
    }
  }

  private static void feedTellsHowMany() {
    holds("Promise 2: feed", "how many there are");
    SyllableMaker x = new SyllableMaker();
    for (int i = 1; i <= 45; i++) due("feed", x.feed(LEAST, MOST, -1, 0, 1), 20 * i);
    due("about(6)", x.about(6), 900);
    due("end(7)", x.end(7), 7);
    due("feed", x.feed(0, 0, 0, 0, 0), 27);
  }

  private static void feedTooMuch() {
    holds("Promise 2: feed", "NONE, and nothing comes, if there would be more than 900.");
    SyllableMaker x = new SyllableMaker();
    String line = "sound a 9 peak;";
    put(x, line + " ".repeat(900 - line.length()));
    due("feed to 920", x.feed(-1, -1, -1, -1, -1), NONE);
    due("about(6)", x.about(6), 900);
    due("end(881)", x.end(881), 881);
    due("feed to 901", x.feed(-1, -1, -1, -1, -1), NONE);
    due("about(6)", x.about(6), 881);
    due("nothing came: law()", x.law(), 1);
    put(x, " ".repeat(880));
    due("feed to 900", x.feed(0x20202020, 0x20202020, 0x20202020, 0x20202020, 0x20202020), 900);
    due("feed to 920", x.feed(0, 0, 0, 0, 0), NONE);
    due("nothing came: law()", x.law(), 0);
    due("feed behind law()", x.feed(0, 0, 0, 0, 0), 20);
  }

  private static void endCuts() {
    holds("Promise 3: end", "The TAPE has its first n bytes: n");
    SyllableMaker x = new SyllableMaker();
    due("end(0) of nothing", x.end(0), 0);
    put(x, "sound a 1;sound b 1;");
    due("end(20), all", x.end(20), 20);
    due("about(6)", x.about(6), 20);
    due("end(10)", x.end(10), 10);
    due("about(6)", x.about(6), 10);
    due("the first ten: law()", x.law(), 1);
    put(x, "sound a 1;");
    due("end(0)", x.end(0), 0);
    due("about(6)", x.about(6), 0);
    due("no bytes: law()", x.law(), 0);
  }

  private static void endRefused() {
    holds("Promise 3: end", "NONE, doing nothing, if it has not so many, or n is below 0.");
    SyllableMaker x = new SyllableMaker();
    due("end(1) of nothing", x.end(1), NONE);
    due("end(-1) of nothing", x.end(-1), NONE);
    put(x, "sound a 1;sound b 1;");
    due("end(21)", x.end(21), NONE);
    due("end(900)", x.end(900), NONE);
    due("end(most)", x.end(MOST), NONE);
    due("end(-1)", x.end(-1), NONE);
    due("end(least)", x.end(LEAST), NONE);
    due("about(6)", x.about(6), 20);
    due("end(5)", x.end(5), 5);
    due("what was cut off is no more: end(6)", x.end(6), NONE);
    due("about(6)", x.about(6), 5);
  }

  private static void lawEmptiesTheTape() {
    holds("Promise 4: law", "The TAPE (empty then, also at a FAULT) is the LAW");
    SyllableMaker x = by("sound a 1;", "");
    due("about(6)", x.about(6), 0);
    due("end(1)", x.end(1), NONE);
    due("a FAULT", law(x, "sound a 1; nothing"), NONE);
    due("about(6)", x.about(6), 0);
    due("end(1)", x.end(1), NONE);
    due("behind it: feed", x.feed(0, 0, 0, 0, 0), 20);
  }

  private static void lawKeepsNoSpeech() {
    holds("Promise 4: law", "(no SPEECH, no ACTS are kept)");
    SyllableMaker x = by(FIVE, "ab ba");
    x.learn(0);
    x.cost(0, 5);
    due("about(5)", x.about(5), 2);
    due("law()", law(x, FIVE + "word b;"), 5);
    due("about(4)", x.about(4), 0);
    due("about(5)", x.about(5), 0);
    due("undo()", x.undo(), NONE);
    due("about(10)", x.about(10), 0);
    due("about(3)", x.about(3), 1);
    due("word(0, 0)", x.word(0, 0), NONE);
    due("learn(0)", x.learn(0), NONE);
    due("speech(0)", x.speech(0), NONE);
    due("beat(0)", x.beat(0), NONE);
  }

  private static void lawKeepsNothingOfOthers() {
    holds("Promise 4: law", "is the LAW");
    String much = FIVE + "open bc;glide ae;rise 1;close 1 1;weigh 3 3 3 3;stress 4 9;help a;move 4;cost bare 7;cost clash 7;word bda;word a;";
    // what is told once alone may be told again in the next LAW
    SyllableMaker x = by(much, "");
    due("the same once more", law(x, much), 5);
    // behind two of them, and behind one with a FAULT at its end, a LAW of a few lines has these alone
    dueFewLines(x);
    dueFewLines(by(much, ""));
    SyllableMaker y = by(much, "");
    due("a FAULT", law(y, much + "cost clash 8;"), NONE);
    dueFewLines(y);
    due("a FAULT", law(y, much + "!"), NONE);
    due("all but its end again", law(y, much), 5);
  }

  private static void dueFewLines(SyllableMaker x) {
    due("a LAW of a few lines", law(x, "sound b 1;sound c 2;sound e 9 peak;sound a 9 peak;"), 4);
    int[] want = {4, 0, 0, 0, 0, 0, 0, 0, NONE, NONE, 0, 0, 0, 0, 0, 0};
    for (int what = 0; what < want.length; what++) due("about(" + what + ")", x.about(what), want[what]);
    due("a new number", x.sound(0, 0), 'b');
    due("no fifth one", x.sound(4, 0), NONE);
    due("no open, no rise", x.opening(0, 1, -1, -1), 0);
    due("say", say(x, "abbbb ae eaa"), 3);
    due("no close", x.judge(0, 0, 1), NONE);
    due("no weigh", x.syllable(0, 0, 0, 4), 5);
    due("no stress", x.word(2, 2), 0);
    due("no glide", x.word(1, 1), 2);
    due("no help", x.mend(0, NONE), -2);
    due("no move", x.joins(1), 1);
  }

  private static void lawTellsHowMany() {
    holds("Promise 4: law", "how many SOUNDS");
    due("an empty law", law(new SyllableMaker(), ""), 0);
    due("no sound", law(new SyllableMaker(), "rise 1;"), 0);
    due("one", law(new SyllableMaker(), "sound a 1;"), 1);
    due("sixteen", law(new SyllableMaker(), sounds(16)), 16);
    SyllableMaker x = by(sounds(16), "");
    due("fewer than before", law(x, "sound z 1;"), 1);
    due("those before are gone", x.sound(1, 0), NONE);
  }

  private static void lawWithFault() {
    holds("Promise 4: law", "NONE: a FAULT (all else stays).");
    SyllableMaker x = by(FIVE + "open bc;glide ae;rise 1;word bca;help a;move 3;stress 1;close 3 1;weigh 2 3 2 5;cost bare 4;", "abcb ae");
    x.learn(1);
    x.cost(1, 6);
    // what is read ahead of the FAULT does not come
    due("a FAULT at the end", law(x, "sound z 0;sound y 1 peak;open zz;word zy;cost bare 7;cost shut 8;move 0;stress 4;weigh 0 0 0 9;close 0 0;help y;rise 9"), NONE);
    int[] want = {5, 1, 1, 2, 2, 2, 0, 1};
    for (int i = 0; i < want.length; i++) due("about(" + i + ")", x.about(i), want[i]);
    due("about(10)", x.about(10), 4);
    due("about(11)", x.about(11), 6);
    due("sound(0, 0)", x.sound(0, 0), 'a');
    due("at(0, 2)", x.at(0, 2), 3);
    due("at(100, 1)", x.at(100, 1), 3);
    due("told", x.opening(2, 3, -1, -1), 2);
    due("the rise", x.opening(3, 4, -1, -1), 4);
    due("the weight", x.syllable(0, 0, 0, 4), 8);
    due("the move", x.joins(1), 1);
    due("the help", x.mend(0, NONE), 1);
    due("undo()", x.undo(), 1);
    due("undo()", x.undo(), 0);
    due("about(3)", x.about(3), 1);
  }

  private static void sayEmptiesTheTape() {
    holds("Promise 5: say", "The TAPE (empty then, also at a FAULT) is SPEECH");
    SyllableMaker x = by(FIVE, "ab");
    due("about(6)", x.about(6), 0);
    due("a FAULT", say(x, "ab zz"), NONE);
    due("about(6)", x.about(6), 0);
    due("end(1)", x.end(1), NONE);
  }

  private static void sayBlanksBetween() {
    holds("Promise 5: say", "WORDS of SOUNDS (rows of letters, TOKENS as in a LAW), blanks between: how many");
    SyllableMaker x = by(FIVE, "a");
    due("one", say(x, "ab"), 1);
    due("two", say(x, "ab\nba"), 2);
    due("blanks at both ends", say(x, " \n ab  ba \n"), 2);
    due("eight", say(x, "a b c d e a b c"), 8);
    due("the eighth", x.at(7, 0), 3);
    due("about(4)", x.about(4), 8);
    due("twelve SOUNDS", say(x, "abcdeabcdeab abcdeabcdeab"), 2);
    due("the twelfth", x.at(1, 11), 2);
    due("fewer than before", say(x, "a"), 1);
    due("word(1, 0)", x.word(1, 0), NONE);
  }

  private static void dueSaid(String speech, int fault, int place) {
    SyllableMaker x = by(FIVE, "abc");
    due("say " + speech, say(x, speech), NONE);
    due("fault(0) of " + speech, x.fault(0), fault);
    due("fault(1) of " + speech, x.fault(1), place);
    due("SPEECH stays", x.about(4), 1);
    due("its WORD, too", x.at(0, 2), 3);
  }

  private static void sayWithFault() {
    holds("Promise 5: say", "NONE: a FAULT (SPEECH stays)");
    dueSaid("", 2, 0);
    dueSaid("a b c z", 3, 6);
    dueSaid("a b c d e a b c d", 5, 16);
    SyllableMaker x = by(FIVE, "abc de");
    x.learn(0);
    due("a FAULT", say(x, "a b c !"), NONE);
    due("at(0, 2)", x.at(0, 2), 3);
    due("at(1, 1)", x.at(1, 1), 1);
    due("ACTS stay", x.undo(), 0);
    // twice, so that what is spare now was SPEECH before
    due("say", say(x, "ba"), 1);
    due("a FAULT", say(x, "c c c !"), NONE);
    due("at(0, 0)", x.at(0, 0), 2);
    due("at(0, 1)", x.at(0, 1), 0);
  }

  private static void sayNoToken() {
    holds("Promise 5: say", "1 no TOKEN");
    dueSaid("abcdabcdabcda", 1, 0);
    dueSaid("ab abcdabcdabcda", 1, 3);
    dueSaid("ab 1234", 1, 3);
    dueSaid("ab 12a", 1, 3);
    dueSaid("ab 1a", 1, 3);
    dueSaid("ab AB", 1, 3);
    dueSaid("ab-ba", 1, 2);
    dueSaid("ab" + (char) 0, 1, 2);
    dueSaid("ab\tba", 1, 2);
    dueSaid("a b c d e a b c !", 1, 16);
  }

  private static void sayNumberSignEnd() {
    holds("Promise 5: say", "2 a number, a sign, the end where the first WORD must stand");
    dueSaid("1", 2, 0);
    dueSaid("ab 1", 2, 3);
    dueSaid("ab1", 2, 2);
    dueSaid("ab 999 zz", 2, 3);
    dueSaid(";", 2, 0);
    dueSaid("ab;", 2, 2);
    dueSaid("ab ;", 2, 3);
    dueSaid("", 2, 0);
    dueSaid(" \n", 2, 2);
    dueSaid(" ".repeat(200), 2, 200);
    dueSaid("a b c d e a b c 1", 2, 16);
    // the end behind a WORD is none
    due("a WORD, the end", say(by(FIVE, ""), "ab"), 1);
    due("no SOUNDS, nothing said", say(new SyllableMaker(), ""), NONE);
  }

  private static void sayNoSound() {
    holds("Promise 5: say", "3 a letter in a WORD that is no SOUND (at the WORD)");
    dueSaid("z", 3, 0);
    dueSaid("ab abz", 3, 3);
    dueSaid("ab zab", 3, 3);
    dueSaid("ab  bzb ab", 3, 4);
    SyllableMaker x = new SyllableMaker();
    due("a new object", say(x, " a"), NONE);
    due("fault(0)", x.fault(0), 3);
    due("fault(1)", x.fault(1), 1);
  }

  private static void sayNinthWord() {
    holds("Promise 5: say", "5 a ninth WORD.");
    dueSaid("a b c d e a b c d", 5, 16);
    dueSaid("a b c d e a b c  dd zz", 5, 17);
    // at one place the least
    dueSaid("a b c d e a b c z", 3, 16);
    due("eight", say(by(FIVE, ""), "a b c d e a b c "), 8);
  }

  private static void sayMoreThan200() {
    holds("Promise 5: say", "-2 (asked first), and the TAPE stays: more than 200 bytes.");
    SyllableMaker x = by(FIVE, "abc");
    due("say ahead", say(x, "z"), NONE);
    put(x, "ab ba" + " ".repeat(196));
    due("say() of 201", x.say(), -2);
    due("about(6)", x.about(6), 201);
    due("SPEECH stays", x.at(0, 2), 3);
    due("the FAULT stays", x.fault(0), 3);
    due("its place stays", x.fault(1), 0);
    due("end(200)", x.end(200), 200);
    due("say() of 200", x.say(), 2);
    due("about(6)", x.about(6), 0);
    // asked ahead of its FAULT
    put(x, "!" + " ".repeat(200));
    due("say() of 201 with a FAULT", x.say(), -2);
    due("fault(0)", x.fault(0), 0);
    due("end(200)", x.end(200), 200);
    due("say() of 200 with a FAULT", x.say(), NONE);
    put(x, " ".repeat(900));
    due("say() of 900", x.say(), -2);
    due("law() of 900", x.law(), 0);
  }

  private static void faultOfTheLatest() {
    holds("Promise 6: fault", "Of the latest law(), say() that read what 0: its FAULT (0: without; ahead of any, too)");
    SyllableMaker x = new SyllableMaker();
    due("ahead of any", x.fault(0), 0);
    law(x, "rise 10;");
    due("of a law", x.fault(0), 4);
    law(x, FIVE);
    due("without", x.fault(0), 0);
    say(x, "ab z");
    due("of a speech", x.fault(0), 3);
    put(x, " ".repeat(201));
    due("say() that does not read", x.say(), -2);
    due("of the latest that read", x.fault(0), 3);
    x.end(0);
    law(x, "");
    due("of a law without", x.fault(0), 0);
    due("of an empty speech", x.say(), NONE);
    due("fault(0)", x.fault(0), 2);
    say(by(FIVE, ""), "z");
    due("of this object alone", x.fault(0), 2);
  }

  private static void faultsPlace() {
    holds("Promise 6: fault", "1: its place (NONE likewise)");
    SyllableMaker x = new SyllableMaker();
    due("ahead of any", x.fault(1), NONE);
    law(x, ";");
    due("the first byte", x.fault(1), 0);
    law(x, FIVE);
    due("without", x.fault(1), NONE);
    say(x, "ab z");
    due("of a speech", x.fault(1), 3);
    say(x, "ab");
    due("without", x.fault(1), NONE);
    law(x, " ".repeat(896) + "rise");
    due("the end", x.fault(1), 900);
  }

  private static void faultOfAnotherWhat() {
    holds("Promise 6: fault", "NONE for another what.");
    SyllableMaker x = new SyllableMaker();
    law(x, "sound a 10;");
    for (int what : new int[] {-1, 2, 3, LEAST, MOST}) due("fault(" + what + ")", x.fault(what), NONE);
  }
}
