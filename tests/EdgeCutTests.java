/** The edges of WORDS that are cut: a test for each sentence that names one. */
public final class EdgeCutTests extends Edges {
  /** Numbers that no word of SPEECH and none that is learnt has, if there are eight and twenty. */
  private static final int[] NO_WORDS = {-1, -2, 8, 9, 99, 120, 121, LEAST, MOST};

  private EdgeCutTests() { }

  public static void main(String[] args) throws Exception {
    run(EdgeCutTests.class);
  }

  private static SyllableMaker full() {
    return by(FIVE + "help a;" + "word b;".repeat(19) + "word acab;", "ab ba b a abc aba c bab");
  }

  // ---- Terms 2: HEARTS, GAPS

  private static void wordOfOneToTwelve() {
    holds(TERMS, "A WORD (1 .. 12 SOUNDS) has HEARTS");
    SyllableMaker x = by(FIVE, "a b aeaeaeaeaeae bbbbbbbbbbbb aaaaaaaaaaaa abbbbbbbbbba");
    int[] sounds = {1, 1, 12, 12, 12, 12};
    int[] hearts = {1, 0, 12, 0, 6, 2};
    for (int k = 0; k < 6; k++) {
      due("SOUNDS of " + k, x.word(k, 0), sounds[k]);
      due("SYLLABLES of " + k, x.word(k, 1), hearts[k]);
    }
    due("the twelfth HEART's place", x.syllable(2, 0, 11, 0), 11);
    due("there is no thirteenth", x.syllable(2, 0, 12, 0), -100);
    due("the GAP of ten", x.word(5, 5), 11);
  }

  private static void hearts() {
    holds(TERMS, "from the first on, a PEAK and the one behind it are one HEART (LONG), if they are alike or a glide (in this order), else a PEAK alone is one");
    SyllableMaker x = by(FIVE + "glide ae;", "aaa aaaa aae aea ea aaea a ba");
    int[] want = {2, 2, 2, 2, 2, 3, 1, 1};
    for (int k = 0; k < 8; k++) due("HEARTS of " + k, x.word(k, 1), want[k]);
    due("aaa: the first one is LONG", x.syllable(0, 0, 0, 2), 2);
    due("aaa: the second one is not", x.syllable(0, 0, 1, 2), 1);
    due("aae: aa, e", x.syllable(2, 0, 0, 2), 2);
    due("aea: ae, a", x.syllable(3, 0, 0, 2), 2);
    due("aea: a", x.syllable(3, 0, 1, 2), 1);
    due("ea is no glide", x.syllable(4, 0, 0, 2), 1);
    due("aaea: aa, ea is none", x.syllable(5, 0, 0, 2) + x.syllable(5, 0, 1, 2), 2 + 1);
    due("the last SOUND alone", x.syllable(7, 0, 0, 2), 1);
    // alike ones that are no PEAKS, and PEAKS parted by another SOUND, are no HEART
    due("bb", by(FIVE, "abba").word(0, 1), 2);
    due("aba", by(FIVE, "aba").syllable(0, 0, 0, 2), 1);
  }

  private static void firstOpeningAndLastClosing() {
    holds(TERMS, "The first OPENING is all ahead of the first HEART, the last CLOSING all behind the last one; each GAP is cut in two: a CLOSING, then an OPENING.");
    SyllableMaker x = by(FIVE + "close 0 0;", "bbbbbbbbbbba abbbbbbbbbbb bbabb a aa");
    dueSyllable(x, 0, 0, 0, 0, 11, 1, 0);
    dueSyllable(x, 0, 1, 0, 0, 11, 1, 0);
    dueSyllable(x, 1, 0, 0, 0, 0, 1, 11);
    dueSyllable(x, 1, 1, 0, 0, 0, 1, 11);
    dueSyllable(x, 2, 0, 0, 0, 2, 1, 2);
    dueSyllable(x, 3, 0, 0, 0, 0, 1, 0);
    dueSyllable(x, 4, 0, 0, 0, 0, 2, 0);
    due("none of them is cut", x.word(2, 5), 1);
    // an empty GAP, of one, of two
    SyllableMaker y = by(FIVE, "ae abe abbe");
    for (int gap = 0; gap <= 2; gap++) due("cuts of a GAP of " + gap, y.word(gap, 5), gap + 1);
    dueSyllable(y, 0, 0, 0, 0, 0, 1, 0);
    dueSyllable(y, 0, 0, 1, 1, 0, 1, 0);
  }

  private static void withoutHearts() {
    holds(TERMS, "A WORD without HEARTS has no SYLLABLES (nothing is cut).");
    SyllableMaker x = by(FIVE + "word b;", "b bcd");
    for (int word : new int[] {0, 1, 100}) {
      due("SYLLABLES", x.word(word, 1), 0);
      due("cuts", x.word(word, 5), 0);
      due("STRESS", x.word(word, 2), NONE);
      due("syllable 0", x.syllable(word, 0, 0, 0), -100);
      due("judge", x.judge(word, 0, 0), -2);
      due("within", x.within(word, MOST), 0);
    }
    due("JOINED", x.syllable(0, 2, 0, 0), -100);
    due("the TALLY", x.tally(0, NONE, 0), 0);
    due("no SOUND is a PEAK", by("sound b 9;", "bb").word(0, 1), 0);
  }

  // ---- Terms 2: LEGAL ones

  private static void openingsOfNoneAndOne() {
    holds(TERMS, "An OPENING is LEGAL: of 0, 1 SOUNDS");
    SyllableMaker x = by(FIVE, "a ba bba abba");
    due("of none", x.judge(0, 0, 1), NONE);
    due("of one", x.judge(1, 0, 1), NONE);
    due("of two", x.judge(2, 0, 1), 0);
    due("of one in a GAP", x.judge(3, 1, 1), NONE);
    due("of two in a GAP", x.judge(3, 0, 1), 1);
    due("opening of none", x.opening(-1, -1, -1, -1), 1);
    due("opening of one", x.opening(D, -1, -1, -1), 1);
    due("opening of two", x.opening(B, B, -1, -1), 0);
  }

  private static void openingsOfTwoToFour() {
    holds(TERMS, "of 2 .. 4, if it is told, LEARNT (a word that is learnt and has HEARTS begins with just it), or RISING");
    // four may RISE, be LEARNT; five never are, though they RISE and a word begins with them
    SyllableMaker x = by(FIVE + "rise 0;word bbbbba;word cbcba;word dcb;word db;", "bbbba bbbbba cbcba cbcbca");
    due("four that rise", x.judge(0, 0, 1), NONE);
    due("five", x.judge(1, 0, 1), 0);
    due("four, LEARNT", x.judge(2, 0, 1), NONE);
    due("five, not", x.judge(3, 0, 1), 0);
    due("cbcb", x.opening(C, B, C, B), 3);
    due("a part of it", x.opening(C, B, C, -1), 0);
    due("of words without HEARTS", x.opening(D, C, B, -1), 0);
    due("of words without HEARTS", x.opening(D, B, -1, -1), 0);
    // the word bba begins with just bb; bbca with just bbc
    SyllableMaker y = by(FIVE + "word bbca;word dda;", "");
    due("bbc", y.opening(B, B, C, -1), 3);
    due("bb, a part", y.opening(B, B, -1, -1), 0);
    due("bc, a part", y.opening(B, C, -1, -1), 0);
    due("dd", y.opening(D, D, -1, -1), 3);
    due("ddd, more", y.opening(D, D, D, -1), 0);
  }

  private static void rising() {
    holds(TERMS, "RISING (rise is told, and each of its SOUNDS is that much more OPEN at least than the one ahead)");
    SyllableMaker x = by("sound b 1;sound c 3;sound d 5;sound f 8;sound g 2;rise 2;", "");
    due("just as much", x.opening(0, 1, -1, -1), 4);
    due("more", x.opening(0, 3, -1, -1), 4);
    due("one less", x.opening(0, 4, -1, -1), 0);
    due("as OPEN", x.opening(0, 0, -1, -1), 0);
    due("less OPEN", x.opening(1, 0, -1, -1), 0);
    due("three", x.opening(0, 1, 2, -1), 4);
    due("four", x.opening(0, 1, 2, 3), 4);
    due("the first step fails", x.opening(0, 4, 2, 3), 0);
    due("the second step fails", x.opening(0, 2, 1, 3), 0);
    due("the third step fails", x.opening(0, 1, 2, 2), 0);
    due("the third step falls", x.opening(0, 1, 2, 0), 0);
    SyllableMaker y = by("sound b 1;sound c 9;", "");
    due("rise is not told", y.opening(0, 1, -1, -1), 0);
  }

  private static int closing(String line, String word) {
    return by("sound a 9 peak;sound b 1;sound c 3;sound d 5;sound f 6;" + line, word).judge(0, 0, 1);
  }

  private static void closings() {
    holds(TERMS, "A CLOSING is LEGAL, if it has no more SOUNDS than close tells, and they fall so.");
    due("none of 0", closing("close 0 9;", "a"), NONE);
    due("one of 0", closing("close 0 0;", "ab"), 0);
    due("one of 1", closing("close 1 9;", "ab"), NONE);
    due("two of 1", closing("close 1 0;", "acb"), 0);
    due("three of 3", closing("close 3 2;", "adcb"), NONE);
    due("four of 3", closing("close 3 0;", "afdcb"), 0);
    due("just so much less", closing("close 4 2;", "adc"), NONE);
    due("one too little", closing("close 4 2;", "afd"), 0);
    due("as OPEN", closing("close 4 1;", "add"), 0);
    due("as OPEN, by 0", closing("close 4 0;", "add"), NONE);
    due("more OPEN, by 0", closing("close 4 0;", "adf"), 0);
    due("the last step fails", closing("close 4 2;", "adcbb"), 0);
    due("the first step fails", closing("close 4 2;", "afdc"), 0);
    // the first closing SOUND has none ahead of it in the CLOSING
    due("one alone, by 9", closing("close 1 9;", "af"), NONE);
    // it is the same in a GAP
    SyllableMaker x = by(FIVE + "close 1 0;", "abba");
    due("one of 1 in a GAP", x.judge(0, 1, 1), NONE);
    due("two of 1 in a GAP", x.judge(0, 2, 1), 0);
  }

  // ---- Terms 2: cuts, COST, WEIGHT, STRESS

  private static void plainCut() {
    holds(TERMS, "PLAIN CUT: of each GAP the longest LEGAL OPENING.");
    SyllableMaker x = by(FIVE + "open cbd;open bdbd;close 0 0;", "ae abe abbe acbde abcbde abdbde adbdbde abbbbbbbbbbe");
    int[] opening = {0, 1, 1, 3, 3, 4, 4, 1};
    int[] closing = {0, 0, 1, 0, 1, 0, 1, 9};
    for (int k = 0; k < 8; k++) {
      due("the OPENING of " + k, x.syllable(k, 0, 1, 1), opening[k]);
      due("the CLOSING of " + k, x.syllable(k, 0, 0, 3), closing[k]);
    }
    // the longest one is LEGAL, though no shorter one of two is; five never are
    SyllableMaker y = by(FIVE + "rise 0;", "abbbbbe abbbbe");
    due("four of five", y.syllable(0, 0, 1, 1), 4);
    due("four of four", y.syllable(1, 0, 1, 1), 4);
    // each GAP for itself
    SyllableMaker z = by(FIVE + "open bc;", "abcacbabce");
    due("the first GAP", z.syllable(0, 0, 1, 1), 2);
    due("the second GAP", z.syllable(0, 0, 2, 1), 1);
    due("the third GAP", z.syllable(0, 0, 3, 1), 2);
  }

  private static int cost(String lines, String word) {
    return by(FIVE + lines, word).word(0, 3);
  }

  private static void costBare() {
    holds(TERMS, "COST of a SYLLABLE: bare without an OPENING");
    due("without", cost("cost bare 7;", "a"), 7);
    due("with one", cost("cost bare 7;", "ba"), 0);
    due("with five that are not LEGAL", cost("cost bare 7;", "bbbbba"), 0);
    due("two without", cost("cost bare 7;", "ae"), 14);
    due("999 each", cost("cost bare 999;", "aeaeaeaeaeae"), 12 * 999);
    // JOINED it has one
    SyllableMaker x = by(FIVE + "cost bare 7;", "ab a");
    due("PLAIN", x.syllable(1, 0, 0, 6), 7);
    due("JOINED", x.syllable(1, 2, 0, 6), 0);
  }

  private static void costShut() {
    holds(TERMS, "shut for each closing SOUND");
    due("none", cost("cost shut 7;", "ba"), 0);
    due("one", cost("cost shut 7;", "bab"), 7);
    due("eleven", cost("cost shut 7;", "abbbbbbbbbbb"), 77);
    due("in a GAP", cost("cost shut 7;", "abbba"), 14);
  }

  private static void costRoughAndWild() {
    holds(TERMS, "rough for an OPENING of 2 .. 4 that is LEGAL as RISING alone, wild for one that is not LEGAL");
    String lines = "rise 1;open bc;word bda;cost rough 7;cost wild 50;";
    due("of none", cost(lines, "a"), 0);
    due("of one", cost(lines, "ba"), 0);
    due("of two, RISING alone", cost(lines, "cda"), 7);
    due("of three, RISING alone", cost(lines, "bcda"), 7);
    due("of two, told, too", cost(lines, "bca"), 0);
    due("of two, LEARNT, too", cost(lines, "bda"), 0);
    due("of two, not LEGAL", cost(lines, "cba"), 50);
    due("of four, RISING alone", cost("rise 0;cost rough 7;cost wild 50;", "bbbba"), 7);
    due("of five", cost("rise 0;cost rough 7;cost wild 50;", "bbbbba"), 50);
    due("of eleven", cost("rise 0;cost rough 7;cost wild 50;", "bbbbbbbbbbba"), 50);
  }

  private static void costBurst() {
    holds(TERMS, "burst for a CLOSING that is not LEGAL");
    due("of none", cost("cost burst 7;close 0 0;", "a"), 0);
    due("just LEGAL", cost("cost burst 7;close 2 0;", "abb"), 0);
    due("one too many", cost("cost burst 7;close 1 0;", "abb"), 7);
    due("once for all of them", cost("cost burst 7;close 0 9;", "abcd"), 7);
    due("it does not fall", cost("cost burst 7;", "abc"), 7);
    due("twice", cost("cost burst 7;close 0 0;", "abbab"), 14);
  }

  private static void costClash() {
    holds(TERMS, "clash, if it and the one ahead are HEAVY.");
    due("none is ahead of the first", cost("cost clash 7;", "aa"), 0);
    due("none is ahead, a short one is HEAVY", cost("cost clash 7;weigh 9 9 9 1;", "a"), 0);
    due("both", cost("cost clash 7;", "aabaa"), 7);
    due("the one ahead alone", cost("cost clash 7;", "aaba"), 0);
    due("it alone", cost("cost clash 7;", "abaa"), 0);
    due("one between", cost("cost clash 7;", "aababaa"), 0);
    due("three", cost("cost clash 7;", "aabaabaa"), 14);
    SyllableMaker x = by(FIVE + "cost clash 7;", "aabaa aa");
    due("the first one's", x.syllable(0, 0, 0, 6), 0);
    due("the second one's", x.syllable(0, 0, 1, 6), 7);
    due("none by the WORD ahead", x.syllable(1, 2, 0, 6), 0);
  }

  private static void costOfAll() {
    holds(TERMS, "COST of a SYLLABLE: bare without an OPENING; shut for each closing SOUND; rough for an OPENING of 2 .. 4 that is LEGAL as RISING alone, wild for one that is not LEGAL; burst for a CLOSING that is not LEGAL; clash, if it and the one ahead are HEAVY.");
    String lines = "rise 1;close 2 0;cost bare 1;cost shut 10;cost rough 100;cost wild 200;cost burst 300;cost clash 400;";
    // what can be had together, of the first SYLLABLE and of one behind a HEAVY one
    due("bare, shut, burst", cost(lines, "abbb"), 1 + 30 + 300);
    due("rough, shut, burst", cost(lines, "bcabbb"), 100 + 30 + 300);
    due("wild, shut", cost(lines, "bbabb"), 200 + 20);
    SyllableMaker x = by(FIVE + lines, "aabcabbb aabbabbb eaaabbb");
    due("rough, shut, burst, clash", x.syllable(0, 0, 1, 6), 100 + 30 + 300 + 400);
    due("wild by its cut, shut, burst, clash", x.judge(1, 0, 0), 1 + 200 + 30 + 300 + 400);
    due("bare, shut, burst, clash", x.syllable(2, 0, 2, 6), 1 + 30 + 300 + 400);
    due("the most of one", by(FIVE + "close 0 0;cost shut 999;cost burst 999;cost bare 999;", "abbbbbbbbbbb").word(0, 3), 999 * 13);
  }

  private static void weightFromSoMuchOn() {
    holds(TERMS, "WEIGHT of a SYLLABLE: of its HEART (short, LONG), and of each closing SOUND; HEAVY from so much on.");
    SyllableMaker x = by(FIVE + "weigh 2 5 3 8;", "a aa abb aab aabb bbbbaa aeb");
    int[] weight = {2, 5, 8, 8, 11, 5, 2};
    int[] heavy = {0, 0, 1, 1, 1, 0, 0};
    for (int k = 0; k < 7; k++) {
      due("WEIGHT of " + k, x.syllable(k, 0, 0, 4), weight[k]);
      due("HEAVY " + k, x.syllable(k, 0, 0, 5), heavy[k]);
    }
    due("just so much", by(FIVE + "weigh 2 5 3 5;", "aa").syllable(0, 0, 0, 5), 1);
    due("one less", by(FIVE + "weigh 2 5 3 6;", "aa").syllable(0, 0, 0, 5), 0);
  }

  private static void cheapestOfLikeOnes() {
    holds(TERMS, "CHEAPEST CUT: the least COST of all SYLLABLES together; of like ones the first as a row of how many closing SOUNDS each GAP has.");
    // all nine cuts cost nothing: no closing SOUNDS at all
    SyllableMaker x = by(FIVE, "abbabba");
    due("nine are as cheap", x.within(0, 0), 9);
    for (int k = 0; k < 3; k++) due("closing SOUNDS of " + k, x.syllable(0, 1, k, 3), 0);
    // ba.bbab: wild 5, shut 5; bab.bab: shut 10
    SyllableMaker y = by(FIVE + "cost wild 5;cost shut 5;", "babbab");
    due("COST", y.word(0, 4), 10);
    due("two are as cheap", y.within(0, 10), 2);
    due("the first of them", y.syllable(0, 1, 0, 3), 0);
    due("PLAIN is the other one", y.syllable(0, 0, 0, 3), 1);
    // 0 0: wild 2; 0 1: wild 1, shut 1; 1 0: shut 1, wild 1; 1 1: shut 2, clash 9
    SyllableMaker z = by(FIVE + "cost clash 9;cost shut 1;cost wild 1;", "babbabba");
    due("COST", z.word(0, 4), 2);
    due("three are as cheap", z.within(0, 2), 3);
    due("the first GAP", z.syllable(0, 1, 0, 3), 0);
    due("the second GAP", z.syllable(0, 1, 1, 3), 0);
    // 0 0: wild 6; 0 1: wild 3, shut 1; 1 0: shut 1, wild 3; 1 1: shut 2, clash 9
    SyllableMaker w = by(FIVE + "cost clash 9;cost shut 1;cost wild 3;", "babbabba");
    due("COST", w.word(0, 4), 4);
    due("two are as cheap", w.within(0, 4), 2);
    due("the first GAP", w.syllable(0, 1, 0, 3), 0);
    due("the second GAP", w.syllable(0, 1, 1, 3), 1);
    // no GAP at all
    due("one SYLLABLE", by(FIVE + "cost shut 4;", "bab").word(0, 4), 4);
  }

  private static int stress(String line, String word) {
    return by(FIVE + line, word).word(0, 2);
  }

  private static void stressOfTheLast() {
    holds(TERMS, "of its last so many SYLLABLES as stress tells secondly (all, if there are fewer) the last HEAVY one, the very last SYLLABLE aside");
    due("of none", stress("stress 1 0;", "aabaabaa"), 2);
    due("of one: the very last is aside", stress("stress 2 1;", "babaaabaa"), 2);
    due("of two, the last but one", stress("stress 1 2;", "babaaba"), 1);
    due("of two, the one ahead of them", stress("stress 1 2;", "aababa"), 2);
    due("of three, the first of them", stress("stress 1 3;", "aababa"), 0);
    due("of nine, there are three", stress("stress 1 9;", "aababa"), 0);
    due("of nine, there is one", stress("stress 1 9;", "aa"), 0);
    due("the last HEAVY one", stress("stress 1 9;", "aabaababa"), 1);
    due("the very last aside", stress("stress 3 9;", "bababaa"), 0);
    due("just HEAVY", stress("stress 1 9;weigh 1 2 1 2;", "babbaba"), 0);
    due("one too light", stress("stress 1 9;weigh 1 2 1 3;", "babbaba"), 2);
  }

  private static void stressFromTheEnd() {
    holds(TERMS, "if there is none, the one so far from the end as stress tells first (1: the last), the first if there are fewer.");
    int[][] want = {{0, 0, 0, 0}, {1, 0, 0, 0}, {2, 1, 0, 0}, {3, 2, 1, 0}, {4, 3, 2, 1}};
    for (int count = 1; count <= 5; count++) for (int back = 1; back <= 4; back++) {
      due("stress " + back + " of " + count, stress("stress " + back + ";", "ba".repeat(count)), want[count - 1][back - 1]);
    }
    due("stress 4 of 12", stress("stress 4;", "aeaeaeaeaeae"), 8);
  }

  // ---- words' numbers

  private static void wordsThereAreNot() {
    holds(TERMS, "words: those of SPEECH (0 .. 7), those that are learnt (100 ..); NONE, if there is none such.");
    SyllableMaker x = full();
    due("the first of SPEECH", x.at(0, 0), A);
    due("the last of SPEECH", x.at(7, 0), B);
    due("the first learnt", x.at(100, 0), B);
    due("the last learnt", x.at(119, 1), C);
    for (int word : NO_WORDS) {
      due("word(" + word + ", 0)", x.word(word, 0), NONE);
      due("word(" + word + ", 1)", x.word(word, 1), NONE);
      due("word(" + word + ", 5)", x.word(word, 5), NONE);
      due("at(" + word + ", 0)", x.at(word, 0), NONE);
      due("syllable(" + word + ", 0, 0, 0)", x.syllable(word, 0, 0, 0), -100);
      due("syllable(" + word + ", 2, 0, 0)", x.syllable(word, 2, 0, 0), -100);
      due("judge(" + word + ", 0, 0)", x.judge(word, 0, 0), -2);
      due("within(" + word + ", 0)", x.within(word, 0), NONE);
      due("rhyme(" + word + ", 0)", x.rhyme(word, 0), NONE);
      due("rhyme(0, " + word + ")", x.rhyme(0, word), NONE);
      due("mend(" + word + ", NONE)", x.mend(word, NONE), NONE);
      due("far(" + word + ", 0)", x.far(word, 0), NONE);
      due("far(0, " + word + ")", x.far(0, word), NONE);
      due("nearest(" + word + ")", x.nearest(word), NONE);
      due("parts(" + word + ")", x.parts(word), NONE);
      due("hills(" + word + ")", x.hills(word), NONE);
    }
    // one fewer of each
    x = by(FIVE + "word a;", "ab");
    for (int word : new int[] {1, 101}) {
      due("word(" + word + ", 0)", x.word(word, 0), NONE);
      due("at(" + word + ", 0)", x.at(word, 0), NONE);
      due("parts(" + word + ")", x.parts(word), NONE);
    }
  }

  // ---- promises 7 to 13

  private static void soundThereIsNot() {
    holds("Promise 7: sound", "NONE if there is none such, or for another what.");
    SyllableMaker x = by("sound a 9 peak;sound b 0;", "");
    for (int i : new int[] {-1, 2, 15, 16, LEAST, MOST}) for (int what = 0; what <= 2; what++) {
      due("sound(" + i + ", " + what + ")", x.sound(i, what), NONE);
    }
    for (int what : new int[] {-1, 3, LEAST, MOST}) due("sound(0, " + what + ")", x.sound(0, what), NONE);
    SyllableMaker y = by(sounds(16), "");
    due("sound(15, 0)", y.sound(15, 0), 'p');
    due("sound(16, 0)", y.sound(16, 0), NONE);
    law(y, "sound a 1;");
    due("one that was, once", y.sound(1, 0), NONE);
  }

  private static void soundsPeak() {
    holds("Promise 7: sound", "0: its letter, 1: how OPEN, 2: 1 if it is a PEAK, else 0.");
    SyllableMaker x = by("sound z 0;sound a 9 peak;", "");
    due("its letter", x.sound(0, 0), 'z');
    due("0", x.sound(0, 1), 0);
    due("no PEAK", x.sound(0, 2), 0);
    due("its letter", x.sound(1, 0), 'a');
    due("9", x.sound(1, 1), 9);
    due("a PEAK", x.sound(1, 2), 1);
  }

  private static void openingUpToTheFirstNone() {
    holds("Promise 8: opening", "(SOUNDS' numbers, up to the first NONE; no PEAKS)");
    SyllableMaker x = by(FIVE + "open bc;open bcdb;", "");
    // behind the first NONE all is free
    for (int free : new int[] {-1, -2, A, B, 5, 16, LEAST, MOST}) {
      due("none", x.opening(-1, free, free, free), 1);
      due("one", x.opening(B, -1, free, free), 1);
      due("two", x.opening(B, C, -1, free), 2);
    }
    due("three", x.opening(B, C, D, -1), 0);
    due("four", x.opening(B, C, D, B), 2);
  }

  private static void openingThatCannotBe() {
    holds("Promise 8: opening", "NONE if one can't be.");
    SyllableMaker x = by(FIVE + "open bc;rise 0;", "");
    for (int no : new int[] {-2, A, 1, 5, 15, 16, 100, LEAST, MOST}) {
      due("the first is " + no, x.opening(no, -1, -1, -1), NONE);
      due("the second is " + no, x.opening(B, no, -1, -1), NONE);
      due("the third is " + no, x.opening(B, C, no, -1), NONE);
      due("the fourth is " + no, x.opening(B, B, B, no), NONE);
    }
    due("no SOUNDS", new SyllableMaker().opening(0, -1, -1, -1), NONE);
    due("no SOUNDS, none", new SyllableMaker().opening(-1, -1, -1, -1), 1);
  }

  private static void openingsKinds() {
    holds("Promise 8: opening", "0: not LEGAL, 1: of 0, 1 SOUNDS, 2: told, 3: LEARNT (not told), 4: RISING alone.");
    SyllableMaker x = by(FIVE + "rise 1;open bc;word bca;word cda;word cba;", "bdda");
    due("told, LEARNT, RISING", x.opening(B, C, -1, -1), 2);
    due("LEARNT, RISING", x.opening(C, D, -1, -1), 3);
    due("LEARNT", x.opening(C, B, -1, -1), 3);
    due("RISING", x.opening(B, D, -1, -1), 4);
    due("not LEGAL", x.opening(D, B, -1, -1), 0);
    due("forget(102)", x.forget(102), 2);
    due("not LEARNT any more", x.opening(C, B, -1, -1), 0);
    due("not LEARNT yet", x.opening(B, D, D, -1), 0);
    due("learn(0)", x.learn(0), 102);
    due("LEARNT", x.opening(B, D, D, -1), 3);
  }

  private static void wordWithoutHearts() {
    holds("Promise 9: word", "(2 .. 4: NONE without HEARTS), 5: in how many ways it can be cut (0 without HEARTS)");
    SyllableMaker x = by(FIVE + "cost bare 1;word bb;", "bbbbbbbbbbbb a");
    for (int word : new int[] {0, 100}) {
      for (int what = 2; what <= 4; what++) due("word(" + word + ", " + what + ")", x.word(word, what), NONE);
      due("word(" + word + ", 5)", x.word(word, 5), 0);
      due("word(" + word + ", 1)", x.word(word, 1), 0);
    }
    due("SOUNDS", x.word(0, 0), 12);
    for (int what = 0; what <= 5; what++) due("a: what " + what, x.word(1, what), what == 2 ? 0 : 1);
    due("the most ways", by(FIVE, "abbabbabbaba").word(0, 5), 3 * 3 * 3 * 2);
    due("one GAP", by(FIVE, "abbbbbbbbbba").word(0, 5), 11);
  }

  private static void wordOfAnotherWhat() {
    holds("Promise 9: word", "NONE for another what.");
    SyllableMaker x = by(FIVE + "word ab;word b;", "ab b");
    for (int word : new int[] {0, 1, 100, 101}) for (int what : new int[] {-1, 6, 7, LEAST, MOST}) {
      due("word(" + word + ", " + what + ")", x.word(word, what), NONE);
    }
  }

  private static void atThereIsNot() {
    holds("Promise 10: at", "NONE if there is none such.");
    SyllableMaker x = by(FIVE + "word abcd;", "b abcdabcdabcd ab");
    due("at(0, 0)", x.at(0, 0), B);
    due("at(1, 11)", x.at(1, 11), D);
    due("at(100, 3)", x.at(100, 3), D);
    for (int i : new int[] {-1, 12, 13, LEAST, MOST}) due("at(1, " + i + ")", x.at(1, i), NONE);
    due("at(0, 1)", x.at(0, 1), NONE);
    due("at(2, 2)", x.at(2, 2), NONE);
    due("at(100, 4)", x.at(100, 4), NONE);
    due("at(3, 0)", x.at(3, 0), NONE);
    due("at(101, 0)", x.at(101, 0), NONE);
    // a shorter WORD where a longer one was
    due("say", say(x, "b b b"), 3);
    due("at(1, 1)", x.at(1, 1), NONE);
  }

  private static void syllableJoinedOfSpeechAlone() {
    holds("Promise 11: syllable", "(0 PLAIN, 1 CHEAPEST, 2 JOINED: WORDS of SPEECH alone)");
    SyllableMaker x = by(FIVE + "word ba;", "ab a");
    for (int what = 0; what <= 6; what++) due("learnt, JOINED, " + what, x.syllable(100, 2, 0, what), -100);
    due("learnt, PLAIN", x.syllable(100, 0, 0, 1), 1);
    // whatever was asked ahead
    due("learnt, JOINED", x.syllable(100, 2, 0, 1), -100);
    due("not learnt, JOINED", x.syllable(101, 2, 0, 1), -100);
    x.learn(0);
    due("said, JOINED", x.syllable(0, 2, 0, 2), 1);
    due("learnt, JOINED", x.syllable(101, 2, 0, 2), -100);
    due("learnt, CHEAPEST", x.syllable(100, 1, 0, 1), 1);
    due("said, JOINED", x.syllable(1, 2, 0, 1), 1);
    for (int cut : new int[] {-1, 3, LEAST, MOST}) due("cut " + cut, x.syllable(0, cut, 0, 0), -100);
  }

  private static void syllableBelowZero() {
    holds("Promise 11: syllable", "the place at which it begins (in its WORD; JOINED below 0, if it begins in the one ahead)");
    SyllableMaker x = by(FIVE + "rise 0;move 4;", "abbbb ab a babab a");
    due("four go over", x.syllable(1, 2, 0, 0), -4);
    due("PLAIN it begins at 0", x.syllable(1, 0, 0, 0), 0);
    due("CHEAPEST it begins at 0", x.syllable(1, 1, 0, 0), 0);
    due("one goes over", x.syllable(2, 2, 0, 0), -1);
    due("none goes over to one with an OPENING", x.syllable(3, 2, 0, 0), 0);
    due("none goes over to the first", x.syllable(0, 2, 0, 0), 0);
    due("the second SYLLABLE", x.syllable(3, 2, 1, 0), 2);
    due("the second SYLLABLE, PLAIN", x.syllable(3, 0, 1, 0), 2);
  }

  private static void syllableThereIsNot() {
    holds("Promise 11: syllable", "-100 if there is none such (a WORD that there is not, too), or for another what.");
    SyllableMaker x = by(FIVE + "word ba;", "aba b ab");
    for (int cut = 0; cut <= 2; cut++) {
      due("the last one", x.syllable(0, cut, 1, 2), 1);
      for (int k : new int[] {-1, 2, 12, LEAST, MOST}) due("syllable(0, " + cut + ", " + k + ", 0)", x.syllable(0, cut, k, 0), -100);
      due("no SYLLABLES", x.syllable(1, cut, 0, 0), -100);
      for (int word : new int[] {-1, 3, 7, 8, 99, 101, 120, LEAST, MOST}) due("syllable(" + word + ", " + cut + ", 0, 0)", x.syllable(word, cut, 0, 0), -100);
      for (int what : new int[] {-1, 7, 8, LEAST, MOST}) due("syllable(0, " + cut + ", 0, " + what + ")", x.syllable(0, cut, 0, what), -100);
    }
    due("learnt, none such", x.syllable(100, 0, 1, 0), -100);
  }

  private static void syllablesClashInItsWord() {
    holds("Promise 11: syllable", "6: its COST (clash by the SYLLABLE ahead in its WORD)");
    SyllableMaker x = by(FIVE + "cost clash 7;cost shut 1;move 0;", "baa baab baabaa");
    due("the first of a WORD, PLAIN", x.syllable(1, 0, 0, 6), 1);
    due("the first of a WORD, JOINED", x.syllable(1, 2, 0, 6), 1);
    due("the second of a WORD, JOINED", x.syllable(2, 2, 1, 6), 7);
    due("the second of a WORD, CHEAPEST", x.syllable(2, 1, 1, 6), 7);
    // what goes over makes the last one light: no clash JOINED
    SyllableMaker y = by(FIVE + "cost clash 7;", "aabab a");
    due("PLAIN", y.syllable(0, 0, 1, 6), 7);
    due("JOINED", y.syllable(0, 2, 1, 6), 0);
  }

  private static void judgeOfDigits() {
    holds("Promise 12: judge", "(how many closing SOUNDS each GAP has, as digits of base 16, the first GAP's the lowest)");
    SyllableMaker x = by(FIVE + "cost shut 1;cost bare 100;", "abba aeaeaeaeaeae abbbbbbbbbba abaeba");
    due("0", x.judge(0, 0, 0), 100);
    due("all of the GAP", x.judge(0, 2, 0), 202);
    due("eleven empty GAPS", x.judge(1, 0, 0), 1200);
    due("ten", x.judge(2, 10, 0), 210);
    due("the first GAP's", x.judge(3, 0x001, 0), 301);
    due("the third GAP's", x.judge(3, 0x100, 0), 301);
    due("the first OPENING that is not LEGAL", by(FIVE, "abbabba").judge(0, 0x10, 1), 1);
    due("the other GAP's", by(FIVE, "abbabba").judge(0, 0x01, 1), 2);
  }

  private static void judgeOfNoCut() {
    holds("Promise 12: judge", "-2 if it is no cut of the WORD (it has no HEARTS, a GAP has not so many SOUNDS, a digit behind the last GAP is not 0, below 0)");
    SyllableMaker x = by(FIVE + "word aba;", "bb abba a aeaeaeaeaeae abbbbbbbbbba aba");
    for (int what = 0; what <= 2; what++) {
      due("no HEARTS", x.judge(0, 0, what), -2);
      due("too many", x.judge(1, 3, what), -2);
      due("fifteen", x.judge(1, 15, what), -2);
      due("eleven of ten", x.judge(4, 11, what), -2);
      due("behind the last GAP", x.judge(1, 0x10, what), -2);
      due("behind the last GAP, not so many", x.judge(1, 0x13, what), -2);
      due("no GAP", x.judge(2, 1, what), -2);
      due("an empty GAP", x.judge(3, 1, what), -2);
      due("the last of eleven", x.judge(3, 1L << 40, what), -2);
      due("behind eleven GAPS", x.judge(3, 1L << 44, what), -2);
      due("the highest digit", x.judge(1, 1L << 60, what), -2);
      due("the highest digit and a right one", x.judge(1, 1L << 32 | 1, what), -2);
      due("below 0", x.judge(1, -1, what), -2);
      due("the least", x.judge(1, Long.MIN_VALUE, what), -2);
      due("the least and a right one", x.judge(1, Long.MIN_VALUE + 1, what), -2);
      due("the most", x.judge(1, Long.MAX_VALUE, what), -2);
      due("learnt", x.judge(100, 2, what), -2);
    }
    due("just so many", x.judge(1, 2, 1), NONE);
    due("no GAP, 0", x.judge(2, 0, 1), NONE);
  }

  private static void judgeOfNoWord() {
    holds("Promise 12: judge", "there is no such WORD, or for another what.");
    SyllableMaker x = by(FIVE + "word aba;", "aba");
    due("there is", x.judge(0, 1, 0), 0);
    due("learnt", x.judge(100, 1, 0), 0);
    for (int word : new int[] {-1, 1, 8, 99, 101, LEAST, MOST}) due("judge(" + word + ", 0, 0)", x.judge(word, 0, 0), -2);
    for (int what : new int[] {-1, 3, LEAST, MOST}) due("judge(0, 0, " + what + ")", x.judge(0, 0, what), -2);
  }

  private static void judgesFirstNotLegal() {
    holds("Promise 12: judge", "1: the first SYLLABLE whose OPENING or CLOSING is not LEGAL (NONE: none)");
    SyllableMaker x = by(FIVE + "close 1 0;", "aba bbaba abbbba ababb abb");
    due("none", x.judge(0, 0, 1), NONE);
    due("none", x.judge(0, 1, 1), NONE);
    due("the first one's OPENING", x.judge(1, 0, 1), 0);
    due("the second one's OPENING", x.judge(2, 0, 1), 1);
    due("the second one's, still", x.judge(2, 1, 1), 1);
    due("the first one's CLOSING", x.judge(2, 3, 1), 0);
    due("both: the first", x.judge(2, 2, 1), 0);
    due("the last one's CLOSING", x.judge(3, 0, 1), 1);
    due("the only one's", x.judge(4, 0, 1), 0);
  }

  private static void judgesCheaperOnes() {
    holds("Promise 12: judge", "2: how many cuts of the WORD cost less.");
    SyllableMaker x = by(FIVE + "cost shut 1;cost bare 1;", "baba babba ba");
    // ba.ba 0; bab.a 1 + 1
    due("the cheapest", x.judge(0, 0, 2), 0);
    due("the other one", x.judge(0, 1, 2), 1);
    // ba.bba 0, bab.ba 1, babb.a 2 + 1
    for (int i = 0; i <= 2; i++) due("judge(1, " + i + ", 2)", x.judge(1, i, 2), i);
    due("the only one", x.judge(2, 0, 2), 0);
    // those that cost as much do not cost less
    due("of like ones", by(FIVE, "abba").judge(0, 2, 2), 0);
  }

  private static void withinC() {
    holds("Promise 13: within", "How many cuts of a WORD cost c at the most (0 without HEARTS).");
    SyllableMaker x = by(FIVE + "cost shut 3;cost bare 4;word b;word aba;", "baba b a");
    // ba.ba 0, bab.a 3 + 4
    int[] c = {LEAST, -1, 0, 1, 6, 7, 8, MOST};
    int[] want = {0, 0, 1, 1, 1, 2, 2, 2};
    for (int i = 0; i < c.length; i++) {
      due("within(0, " + c[i] + ")", x.within(0, c[i]), want[i]);
      due("no HEARTS, " + c[i], x.within(1, c[i]), 0);
      due("learnt, no HEARTS, " + c[i], x.within(100, c[i]), 0);
    }
    due("one cut, one less", x.within(2, 3), 0);
    due("one cut, just so much", x.within(2, 4), 1);
    due("learnt", x.within(101, 4), 1);
    due("the most cuts", by(FIVE, "abbabbabbaba").within(0, 0), 54);
  }
}
