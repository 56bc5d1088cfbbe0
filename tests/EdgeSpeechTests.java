/** The edges of SPEECH, of what is mended, how FAR it is and how it beats: a test for each sentence that names one. */
public final class EdgeSpeechTests extends Edges {
  private static final int[] NO_WORDS = {-1, -2, 8, 9, 99, 101, 119, 120, LEAST, MOST};

  private EdgeSpeechTests() { }

  public static void main(String[] args) throws Exception {
    run(EdgeSpeechTests.class);
  }

  // ---- Terms 3: what is JOINED

  private static void speechOfOneToEight() {
    holds(TERMS, "SPEECH: 1 .. 8 WORDS.");
    SyllableMaker x = by(FIVE, "a");
    due("one", x.about(4), 1);
    due("none", say(x, ""), NONE);
    due("nine", say(x, "a a a a a a a a a"), NONE);
    due("one, still", x.about(4), 1);
    due("eight", say(x, "ab ab ab ab ab ab ab ab"), 8);
    due("about(4)", x.about(4), 8);
    due("the eighth is JOINED", x.joins(7), 1);
    due("SYLLABLES of all eight", x.speech(2), 8);
  }

  private static void whereWordsJoin() {
    holds(TERMS, "where a WORD begins with a HEART, and the one ahead has SYLLABLES");
    SyllableMaker x = by(FIVE + "rise 0;", "ab ab ba b a bb e");
    int[] want = {0, 1, 0, 0, 0, 0, 0};
    for (int k = 0; k < 7; k++) due("joins(" + k + ")", x.joins(k), want[k]);
    // one PEAK ahead is enough
    due("abb a", by(FIVE + "rise 0;move 4;", "abb a").joins(1), 2);
    due("bbb a", by(FIVE + "rise 0;move 4;", "bbb a").joins(1), 0);
  }

  private static int joined(String lines, String speech) {
    return by(FIVE + lines, speech).joins(1);
  }

  private static void longestEndGoesOver() {
    holds(TERMS, "of its last CLOSING (as it is alone) the longest end, of no more SOUNDS than move tells, that is LEGAL as an OPENING, goes over to be its OPENING");
    due("no CLOSING", joined("move 4;", "ba a"), 0);
    due("one of one", joined("move 4;", "ab a"), 1);
    due("one of two: bb is not LEGAL", joined("move 4;", "abb a"), 1);
    due("two of two, told", joined("move 2;open bb;", "abb a"), 2);
    due("two, told, by move 1", joined("move 1;open bb;", "abb a"), 1);
    due("three, told, though its end of two is not", joined("move 3;open cbd;", "acbd a"), 3);
    due("by move 2 just one", joined("move 2;open cbd;", "acbd a"), 1);
    due("move 0", joined("move 0;rise 0;", "abb a"), 0);
    due("four of eleven", joined("move 4;rise 0;", "abbbbbbbbbbb a"), 4);
    due("an end, no beginning", joined("move 4;open cb;", "acbd a"), 1);
    // as it is alone: what came to the WORD from the one ahead does not count
    SyllableMaker x = by(FIVE + "rise 0;move 4;", "abb abb abb a");
    for (int k = 1; k <= 3; k++) due("joins(" + k + ")", x.joins(k), 2);
    // what it is as an OPENING tells its COST: RISING alone, told, of one SOUND
    String costs = "move 2;rise 1;cost bare 7;cost rough 5;cost wild 50;";
    due("bc, RISING alone", by(FIVE + costs, "abc a").syllable(1, 2, 0, 6), 5);
    due("bc, told", by(FIVE + costs + "open bc;", "abc a").syllable(1, 2, 0, 6), 0);
    due("bc, RISING, to one with SOUNDS of its own behind", by(FIVE + costs, "abc acb").syllable(1, 2, 0, 6), 5);
    due("cb: b", by(FIVE + costs, "acb a").syllable(1, 2, 0, 6), 0);
    due("nothing goes over", by(FIVE + costs, "a a").syllable(1, 2, 0, 6), 7);
    // the last CLOSING, not one of a GAP
    due("the last CLOSING is empty", joined("move 4;", "abba a"), 0);
  }

  private static void nothingElseChanges() {
    holds(TERMS, "goes over to be its OPENING; nothing else changes.");
    SyllableMaker x = by(FIVE + "rise 0;move 2;", "babacbb abba");
    dueSyllable(x, 0, 2, 0, 0, 1, 1, 0, 1, 0);
    dueSyllable(x, 0, 2, 1, 2, 1, 1, 1, 2, 1);
    dueSyllable(x, 1, 2, 0, -2, 2, 1, 0, 1, 0);
    dueSyllable(x, 1, 2, 1, 1, 2, 1, 0, 1, 0);
    due("COST of nothing", x.syllable(1, 2, 0, 6), 0);
    // WORDS, and what is asked of one alone, are as they were
    dueSyllable(x, 0, 0, 1, 2, 1, 1, 3, 4, 1);
    dueSyllable(x, 1, 0, 0, 0, 0, 1, 0, 1, 0);
    due("at(1, 0)", x.at(1, 0), 0);
    due("SOUNDS", x.word(1, 0), 4);
  }

  // ---- Terms 3: what is MENDED, FAR, NEAREST, parted

  private static void mendedByTheFewest() {
    holds(TERMS, "MENDED (help is told): the fewest HELPERS (that PEAK) put into a WORD (one at a place at most: places 0 .. how many SOUNDS there are)");
    SyllableMaker x = by(FIVE + "help a;close 0 0;", "ba b bb ab bbbbbb");
    dueMended(x, 0);
    dueMended(x, 1, 1);
    dueMended(x, 2, 1, 2);
    dueMended(x, 3, 2);
    dueMended(x, 4, 1, 2, 3, 4, 5, 6);
    dueMended(by(FIVE + "help a;close 1 0;", "b"), 0, 0);
    due("help is not told", by(FIVE, "ba").mend(0, NONE), -2);
    due("help is not told in the next LAW", helpTaken(), -2);
  }

  private static int helpTaken() {
    SyllableMaker x = by(FIVE + "help a;", "ba");
    due("told", x.mend(0, NONE), 0);
    law(x, FIVE);
    say(x, "ba");
    return x.mend(0, NONE);
  }

  private static void mendedIsLegal() {
    holds(TERMS, "so that it has HEARTS, and by PLAIN CUT each OPENING (the first, too) and each CLOSING is LEGAL");
    SyllableMaker x = by(FIVE + "help e;close 1 0;", "b bba abb abbba ba");
    dueMended(x, 0, 0);
    // the first OPENING is not LEGAL
    dueMended(x, 1, 0);
    // the last CLOSING is not LEGAL: ab.be, the first of ab.be and a.beb
    dueMended(x, 2, 2);
    // a CLOSING in a GAP is not LEGAL: a.bebba would be a.beb.ba
    dueMended(x, 3, 2);
    dueMended(x, 4);
    // five ahead are never LEGAL, four may be
    dueMended(by(FIVE + "help e;rise 0;", "bbbba"), 0);
    dueMended(by(FIVE + "help e;rise 0;close 0 0;", "bbbbba"), 0, 1);
  }

  private static void mendedFirstOfLikeOnes() {
    holds(TERMS, "of like ones the first as a row of places");
    // all LEGAL with any one HELPER: the first place
    dueMended(by(FIVE + "help a;rise 0;close 4 0;", "bbbb"), 0, 0);
    // one at the most ahead of the first, two in a GAP, one behind the last
    dueMended(by(FIVE + "help e;close 1 0;", "bbb"), 0, 0, 2);
    dueMended(by(FIVE + "help e;close 1 0;", "bbbb"), 0, 1, 3);
    dueMended(by(FIVE + "help e;close 1 0;", "bbbbb"), 0, 0, 2, 4);
    dueMended(by(FIVE + "help e;close 0 0;", "bb"), 0, 1, 2);
  }

  private static void mendedUpToTwelve() {
    holds(TERMS, "SOUNDS and HELPERS then are 12 at most.");
    String law = FIVE + "help a;close 0 0;";
    dueMended(by(law, "bababababab"), 0, 11);
    dueMended(by(law, "babababababa"), 0);
    due("thirteen", by(law, "bababababaab").mend(0, NONE), -2);
    dueMended(by(law, "bbbbbb"), 0, 1, 2, 3, 4, 5, 6);
    due("fourteen", by(law, "bbbbbbb").mend(0, NONE), -2);
    due("twelve that have no HEARTS", by(law, "bbbbbbbbbbbb").mend(0, NONE), -2);
    // a CLOSING of five: one HELPER would do, in eleven it can
    dueMended(by(FIVE + "help a;", "abbababbbbb"), 0, 7);
    due("in twelve it can't", by(FIVE + "help a;", "babbababbbbb").mend(0, NONE), -2);
  }

  private static void farByChanges() {
    holds(TERMS, "FAR are two WORDS by the least sum of changes that make the one the other: a SOUND left out, put in: 5; a SOUND for an unlike one: how much more OPEN the one is than the other, and 3, if one alone is a PEAK; 1 at least.");
    SyllableMaker x = by("sound a 9 peak;sound e 9 peak;sound b 1;sound c 1;sound d 7;sound f 0;sound g 9;sound p 0 peak;",
        "a e b c d f g p");
    due("alike", x.far(0, 0), 0);
    due("as OPEN as each other: 1 at least", x.far(0, 1), 1);
    due("as OPEN, no PEAKS", x.far(2, 3), 1);
    due("by 1", x.far(2, 5), 1);
    due("by 6", x.far(2, 4), 6);
    due("the other way", x.far(4, 2), 6);
    due("one alone is a PEAK, as OPEN", x.far(0, 6), 3);
    due("one alone is a PEAK, by 2", x.far(0, 4), 5);
    due("by 9, a PEAK: left out and put in is less", x.far(0, 5), 10);
    due("by 9, both PEAKS", x.far(0, 7), 9);
    say(x, "a aaaaaaaaaaaa bbbbbbbbbbbb ab ba");
    due("eleven put in", x.far(0, 1), 55);
    due("eleven left out", x.far(1, 0), 55);
    due("twelve for twelve", x.far(1, 2), 120);
    say(x, "bba a abb bca ba cbba");
    due("two left out ahead", x.far(0, 1), 10);
    due("two put in ahead", x.far(1, 0), 10);
    due("two left out behind", x.far(2, 1), 10);
    due("two put in behind", x.far(1, 2), 10);
    due("one left out between", x.far(3, 4), 5);
    due("one put in between", x.far(4, 3), 5);
    due("one put in ahead, alike ones behind", x.far(0, 5), 5);
    due("one left out, one for another", x.far(5, 3), 6);
    say(x, "a aaaaaaaaaaaa bbbbbbbbbbbb ab ba");
    due("put in ahead, left out behind", x.far(3, 4), 10);
    due("the most alike", x.far(2, 2), 0);
  }

  private static void nearestFirst() {
    holds(TERMS, "NEAREST: of the words that are learnt the one that is least FAR (with a number unlike the WORD's); the first.");
    SyllableMaker x = by(FIVE + "word ba;word ba;word bb;word e;", "ba a e");
    due("the first of like ones", x.nearest(0), 100);
    due("not itself, but one that is alike", x.nearest(100), 101);
    due("not itself, but the one ahead", x.nearest(101), 100);
    due("the last", x.nearest(1), 103);
    due("alike", x.nearest(2), 103);
    SyllableMaker y = by(FIVE + "word ba;word e;", "a");
    due("the other one behind", y.nearest(100), 101);
    due("the other one ahead", y.nearest(101), 100);
  }

  private static void partsOfLikeWords() {
    holds(TERMS, "PARTS of a WORD: rows of words that are learnt (alike ones are one), one behind the other, that have just its SOUNDS.");
    SyllableMaker x = by(FIVE + "word a;word a;word aa;word b;", "a aa aaa ab ba c abc bbbbbbbbbbbb");
    int[] want = {1, 2, 3, 1, 1, 0, 0, 1};
    for (int k = 0; k < 8; k++) due("PARTS of " + k, x.parts(k), want[k]);
    due("itself alone", x.parts(103), 1);
    due("itself, and two", x.parts(102), 2);
    due("a longer one has none", by(FIVE + "word ab;", "a").parts(0), 0);
    due("its end alone", by(FIVE + "word b;", "ab").parts(0), 0);
  }

  // ---- Terms 3: what beats

  private static void beatsOfSyllables() {
    holds(TERMS, "By n (2 .. 4) and f (0 .. n - 1) those whose number less f is a multiple of n are BEATS.");
    // five SYLLABLES, the one with the number 1 is STRESSED
    SyllableMaker x = by(FIVE + "stress 4;", "aeaea");
    int[][] want = {{4, 1}, {3, 1, 2}, {3, 0, 2, 2}};
    for (int n = 2; n <= 4; n++) for (int f = 0; f < n; f++) due("misfits(" + n + ", " + f + ")", x.misfits(n, f), want[n - 2][f]);
    // fewer SYLLABLES than n: those behind f are none
    SyllableMaker y = by(FIVE, "a");
    due("f 0", y.misfits(4, 0), 0);
    for (int f = 1; f <= 3; f++) due("f " + f, y.misfits(4, f), 1);
  }

  private static void misfitsOfBothKinds() {
    holds(TERMS, "MISFITS: BEATS that are not the STRESSED one of their WORD, and STRESSED ones that are no BEATS.");
    SyllableMaker x = by(FIVE + "stress 1;", "baba baba");
    due("both kinds", x.misfits(2, 0), 4);
    due("none", x.misfits(2, 1), 0);
    due("one of each and more", x.misfits(4, 1), 1);
    due("all BEATS are wrong", x.misfits(4, 0), 3);
    // STRESSED by what PLAIN CUT makes HEAVY
    SyllableMaker y = by(FIVE + "stress 1 9;", "babbaba");
    due("the first one is STRESSED", y.misfits(4, 0), 0);
    due("the last one is not", y.misfits(4, 2), 2);
  }

  private static void numberedThrough() {
    holds(TERMS, "BEAT: SYLLABLES of SPEECH are numbered through from 0 on (WORDS in order).");
    // a WORD without SYLLABLES takes no number
    SyllableMaker x = by(FIVE + "stress 1;", "ba b ba bb baba");
    // STRESSED: 0, 1, 3
    due("misfits(2, 0)", x.misfits(2, 0), 3);
    due("misfits(2, 1)", x.misfits(2, 1), 1);
    due("misfits(3, 0)", x.misfits(3, 0), 1);
    due("misfits(4, 3)", x.misfits(4, 3), 2);
    // the number from the end is another one
    SyllableMaker y = by(FIVE + "stress 4;", "baba ba");
    due("misfits(2, 0)", y.misfits(2, 0), 0);
    due("misfits(3, 2)", y.misfits(3, 2), 1);
  }

  private static void bestBeatOfLikeOnes() {
    holds(TERMS, "BEST BEAT: the fewest MISFITS; of like ones the least n, then the least f.");
    // one SYLLABLE: all n with f 0 fit
    SyllableMaker x = by(FIVE + "stress 1;", "ba");
    due("the least n", x.beat(0), 2);
    due("its f", x.beat(1), 0);
    due("MISFITS", x.beat(2), 0);
    // all four are STRESSED: by 2 two misfit for f 0 and 1, by more n more
    SyllableMaker y = by(FIVE, "ba ba ba ba");
    due("n", y.beat(0), 2);
    due("the least f", y.beat(1), 0);
    due("MISFITS", y.beat(2), 2);
    // the last fits by its f alone: 3, 2 and 4, 2
    SyllableMaker z = by(FIVE + "stress 1;", "aea");
    due("the least n that fits", z.beat(0), 3);
    due("its f", z.beat(1), 2);
    due("MISFITS", z.beat(2), 0);
    SyllableMaker w = by(FIVE + "stress 1;", "aeae");
    due("the largest n", w.beat(0), 4);
    due("the largest f", w.beat(1), 3);
    due("MISFITS", w.beat(2), 0);
    // n 5 would fit
    SyllableMaker v = by(FIVE + "stress 1;", "aeaea");
    due("no n fits", v.beat(0), 3);
    due("its f", v.beat(1), 1);
    due("MISFITS", v.beat(2), 1);
  }

  // ---- promises 14 to 19

  private static void rhymeFromTheHeartOn() {
    holds(TERMS, "RHYME of two WORDS of SPEECH: all from the HEART of the STRESSED SYLLABLE on is alike.");
    SyllableMaker x = by(FIVE + "stress 2;", "baca daca aca caba bacab bada ca bacaca");
    due("another OPENING ahead", x.rhyme(0, 1), 1);
    due("none ahead", x.rhyme(0, 2), 1);
    due("another SOUND behind", x.rhyme(0, 3), 0);
    due("one SOUND more", x.rhyme(0, 4), 0);
    due("another OPENING behind", x.rhyme(0, 5), 0);
    due("the end of it alone", x.rhyme(0, 6), 0);
    due("more SYLLABLES ahead", x.rhyme(0, 7), 1);
    due("itself", x.rhyme(0, 0), 1);
    // the HEART, from its first SOUND on
    due("a LONG one", by(FIVE + "stress 1;", "baa ba").rhyme(0, 1), 0);
    // STRESSED by what PLAIN CUT makes HEAVY
    due("abbaba, bebbaba", by(FIVE + "stress 1 9;", "abbaba bebbaba").rhyme(0, 1), 0);
    due("abbaba, abbaba", by(FIVE + "stress 1 9;", "abbaba cabbaba").rhyme(0, 1), 1);
    due("another HEART", by(FIVE + "stress 1;", "ba be").rhyme(0, 1), 0);
    due("twelve", by(FIVE + "stress 4;", "abbbbbbbbbbb abbbbbbbbbbb").rhyme(0, 1), 1);
    due("twelve, the last is another", by(FIVE + "stress 4;", "abbbbbbbbbbb abbbbbbbbbbc").rhyme(0, 1), 0);
  }

  private static void rhymeWithoutSyllables() {
    holds("Promise 14: rhyme", "1 if two WORDS of SPEECH RHYME, else 0 (also of one without SYLLABLES)");
    SyllableMaker x = by(FIVE, "ba da bb bb b");
    due("both have SYLLABLES", x.rhyme(0, 1), 1);
    due("the second has none", x.rhyme(0, 2), 0);
    due("the first has none", x.rhyme(2, 0), 0);
    due("both have none, alike", x.rhyme(2, 3), 0);
    due("both have none, unlike", x.rhyme(2, 4), 0);
    due("itself has none", x.rhyme(2, 2), 0);
  }

  private static void rhymeOfNoWord() {
    holds("Promise 14: rhyme", "NONE, too, if one is none of SPEECH.");
    SyllableMaker x = by(FIVE + "word ba;", "ba b");
    for (int no : new int[] {-1, 2, 7, 8, 99, 100, 101, LEAST, MOST}) {
      due("rhyme(0, " + no + ")", x.rhyme(0, no), NONE);
      due("rhyme(" + no + ", 0)", x.rhyme(no, 0), NONE);
      due("rhyme(1, " + no + ")", x.rhyme(1, no), NONE);
      due("rhyme(" + no + ", " + no + ")", x.rhyme(no, no), NONE);
    }
    due("no SPEECH", by(FIVE + "word ba;", "").rhyme(0, 0), NONE);
  }

  private static void mendOfThePlaces() {
    holds("Promise 15: mend", "MENDED: how many HELPERS (i NONE), the place of the i-th (0 ..; NONE: none such).");
    SyllableMaker x = by(FIVE + "help a;close 0 0;", "bb ba");
    due("how many", x.mend(0, NONE), 2);
    due("the first", x.mend(0, 0), 1);
    due("the second", x.mend(0, 1), 2);
    for (int i : new int[] {-2, 2, 12, 13, LEAST, MOST}) due("mend(0, " + i + ")", x.mend(0, i), NONE);
    due("none is put in", x.mend(1, NONE), 0);
    due("no first one", x.mend(1, 0), NONE);
    for (int word : NO_WORDS) due("mend(" + word + ", NONE)", x.mend(word, NONE), NONE);
  }

  private static void mendThatCannotBe() {
    holds("Promise 15: mend", "-2: it can't be, or help is not told.");
    SyllableMaker x = by(FIVE + "help a;close 0 0;", "bbbbbbb");
    due("it can't be", x.mend(0, NONE), -2);
    due("it can't be, a place", x.mend(0, 0), -2);
    SyllableMaker y = by(FIVE + "word ba;", "ba bb");
    due("help is not told, all LEGAL", y.mend(0, NONE), -2);
    due("help is not told, no HEARTS", y.mend(1, NONE), -2);
    due("help is not told, learnt", y.mend(100, NONE), -2);
    due("help is not told, a place", y.mend(0, 0), -2);
    due("none such", y.mend(2, NONE), NONE);
  }

  private static void farOfNoWord() {
    holds("Promise 16: far", "How FAR two WORDS are; NONE if one is none.");
    SyllableMaker x = by(FIVE + "word bb;", "b");
    due("said, learnt", x.far(0, 100), 5);
    due("learnt, said", x.far(100, 0), 5);
    due("learnt, learnt", x.far(100, 100), 0);
    for (int no : new int[] {-1, 1, 8, 99, 101, 120, LEAST, MOST}) {
      due("far(0, " + no + ")", x.far(0, no), NONE);
      due("far(" + no + ", 0)", x.far(no, 0), NONE);
      due("far(" + no + ", " + no + ")", x.far(no, no), NONE);
      due("far(100, " + no + ")", x.far(100, no), NONE);
    }
  }

  private static void nearestOfNoOther() {
    holds("Promise 17: nearest", "NEAREST (its number, 100 ..); NONE, too, if no other one is learnt.");
    SyllableMaker x = by(FIVE + "word bb;", "bb");
    due("of a WORD of SPEECH", x.nearest(0), 100);
    due("no other one", x.nearest(100), NONE);
    due("learn(0)", x.learn(0), 101);
    due("another one", x.nearest(100), 101);
    due("another one", x.nearest(101), 100);
    x.forget(100);
    x.forget(100);
    due("none learnt", x.nearest(0), NONE);
    for (int no : NO_WORDS) due("nearest(" + no + ")", x.nearest(no), NONE);
    // the twentieth
    SyllableMaker y = by(FIVE + "word bbbb;".repeat(19) + "word a;", "a");
    due("the last of twenty", y.nearest(0), 119);
  }

  private static void partsOfMost() {
    holds("Promise 18: parts", "How many PARTS there are (rows); 1,000,000 at most.");
    StringBuilder law = new StringBuilder(FIVE);
    for (int size = 1; size <= 12; size++) law.append("word ").append("a".repeat(size)).append(';');
    // twelve SOUNDS have eleven places to be parted at: the most there can be
    SyllableMaker x = by(law.toString(), "aaaaaaaaaaaa aaaaaaaaaaab b");
    due("the most", x.parts(0), 2048);
    due("none with b", x.parts(1), 0);
    due("none", x.parts(2), 0);
    due("no word is learnt", by(FIVE, "a").parts(0), 0);
  }

  private static void hillsWithNothingAhead() {
    holds("Promise 19: hills", "rows of SOUNDS beside one another, all as OPEN as each other, with less OPEN ones (or nothing) ahead and behind: how many.");
    SyllableMaker x = by("sound a 0;sound b 1;sound c 1;sound d 2;sound e 9 peak;sound f 9;", "a aa abca bab dad dbd abd dba");
    int[] want = {1, 1, 1, 2, 2, 2, 1, 1};
    for (int k = 0; k < 8; k++) due("HILLS of " + k, x.hills(k), want[k]);
    say(x, "abcd dcba efe bccbbc dabbad abababababab bbbbbbbbbbbb abbdbba");
    want = new int[] {1, 1, 1, 1, 3, 6, 1, 1};
    for (int k = 0; k < 8; k++) due("HILLS of " + k, x.hills(k), want[k]);
  }

  // ---- promises 20 to 23

  private static void joinsThereAreNot() {
    holds("Promise 20: joins", "(0 for the first); NONE if there is none such.");
    SyllableMaker x = by(FIVE + "word ab;", "ab a a a a a a ab");
    due("the first", x.joins(0), 0);
    due("the second", x.joins(1), 1);
    due("the last", x.joins(7), 0);
    for (int k : new int[] {-1, 8, 100, LEAST, MOST}) due("joins(" + k + ")", x.joins(k), NONE);
    say(x, "ab");
    due("one WORD", x.joins(0), 0);
    due("no second one", x.joins(1), NONE);
    due("no SPEECH", by(FIVE + "word ab;", "").joins(0), NONE);
  }

  private static void speechThereIsNot() {
    holds("Promise 21: speech", "NONE without SPEECH, or for another what.");
    SyllableMaker x = by(FIVE + "word aa;", "");
    for (int what = -1; what <= 3; what++) due("no SPEECH, " + what, x.speech(what), NONE);
    say(x, "bb");
    for (int what = 0; what <= 2; what++) due("no SYLLABLES, " + what, x.speech(what), 0);
    for (int what : new int[] {-1, 3, LEAST, MOST}) due("speech(" + what + ")", x.speech(what), NONE);
    law(x, FIVE);
    for (int what = 0; what <= 2; what++) due("a new LAW, " + what, x.speech(what), NONE);
  }

  private static void speechHeavy() {
    holds("Promise 21: speech", "How many SYLLABLES of SPEECH, JOINED, are HEAVY (what 0), how many were by PLAIN CUT (1)");
    SyllableMaker x = by(FIVE, "a");
    due("none, JOINED", x.speech(0), 0);
    due("none, PLAIN", x.speech(1), 0);
    // aa.e.aa, ab.bab, bab.bab, a, b, abb: of bab.bab the last b goes over to a
    say(x, "aaeaa abbab babbab a b abb");
    due("JOINED", x.speech(0), 2 + 2 + 1 + 0 + 0 + 1);
    due("PLAIN", x.speech(1), 2 + 2 + 2 + 0 + 0 + 1);
    say(x, "ab ab ab ab ab ab ab ab");
    due("all eight, JOINED", x.speech(0), 1);
    due("all eight, PLAIN", x.speech(1), 8);
    say(x, "aaeeaaeeaaee");
    due("six of one WORD, JOINED", x.speech(0), 6);
    due("six of one WORD, PLAIN", x.speech(1), 6);
    // an OPENING that comes does not make it heavier
    say(x, "ab ab");
    due("the second one alone, JOINED", x.speech(0), 1);
    due("both, PLAIN", x.speech(1), 2);
  }

  private static void speechChanged() {
    holds("Promise 21: speech", "how many are otherwise than by PLAIN CUT (2: an OPENING, a CLOSING is)");
    SyllableMaker x = by(FIVE, "ab ab a b a");
    // all but the last: one that gets and gives is one
    due("otherwise", x.speech(2), 3);
    due("HEAVY, JOINED", x.speech(0), 0);
    due("HEAVY, PLAIN", x.speech(1), 2);
    due("none", by(FIVE, "ba ba").speech(2), 0);
    due("one WORD", by(FIVE, "abab").speech(2), 0);
    due("its last and its first SYLLABLE alone", by(FIVE, "bababab ababa").speech(2), 2);
    due("move 0", by(FIVE + "move 0;", "ab a").speech(2), 0);
  }

  private static void misfitsThatCannotBe() {
    holds("Promise 22: misfits", "How many MISFITS by n and f; NONE without SYLLABLES in SPEECH, or if one can't be.");
    SyllableMaker x = by(FIVE + "word ba;", "ba");
    for (int n = 2; n <= 4; n++) {
      for (int f = 0; f < n; f++) due("misfits(" + n + ", " + f + ")", x.misfits(n, f), f == 0 ? 0 : 1);
      for (int f : new int[] {-1, n, n + 1, LEAST, MOST}) due("misfits(" + n + ", " + f + ")", x.misfits(n, f), NONE);
    }
    for (int n : new int[] {-2, -1, 0, 1, 5, 6, LEAST, MOST}) for (int f : new int[] {-1, 0, 1}) {
      due("misfits(" + n + ", " + f + ")", x.misfits(n, f), NONE);
    }
    say(x, "b bb");
    due("no SYLLABLES", x.misfits(2, 0), NONE);
    say(x, "b bb a");
    due("one", x.misfits(2, 0), 0);
    due("no SPEECH", by(FIVE + "word ba;", "").misfits(2, 0), NONE);
  }

  private static void beatThereIsNot() {
    holds("Promise 23: beat", "NONE without SYLLABLES in SPEECH, or for another what.");
    SyllableMaker x = by(FIVE + "word ba;", "");
    for (int what = 0; what <= 2; what++) due("no SPEECH, " + what, x.beat(what), NONE);
    say(x, "b bb");
    for (int what = 0; what <= 2; what++) due("no SYLLABLES, " + what, x.beat(what), NONE);
    say(x, "b bb a");
    int[] want = {2, 0, 0};
    for (int what = 0; what <= 2; what++) due("beat(" + what + ")", x.beat(what), want[what]);
    for (int what : new int[] {-1, 3, LEAST, MOST}) due("beat(" + what + ")", x.beat(what), NONE);
  }
}
