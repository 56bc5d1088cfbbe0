/** For each promise: ordinary inputs, the edges that the document names, wrong inputs. */
public final class PromiseTests extends Bench {
  private static final String BASE =
      "sound a 9 peak;sound e 9 peak;sound i 8 peak;sound p 1;sound t 1;sound s 2;sound n 4;sound l 5;sound r 6;"
      + "open st;glide ai;rise 3;close 2 1;cost bare 5;cost shut 2;cost rough 3;cost wild 9;cost burst 7;cost clash 4;";
  // The numbers of BASE's SOUNDS.
  private static final int A = 0;
  private static final int I = 2;
  private static final int P = 3;
  private static final int T = 4;
  private static final int S = 5;
  private static final int N = 6;
  private static final int L = 7;
  private static final int R = 8;

  private PromiseTests() { }

  public static void main(String[] args) {
    newObject();
    feeding();
    ending();
    laws();
    lawTokens();
    lawFaults();
    lawLimits();
    saying();
    faults();
    sounds();
    openings();
    words();
    stresses();
    sites();
    syllables();
    judging();
    withins();
    rhymes();
    mending();
    distances();
    nearests();
    partings();
    hillCounts();
    joinings();
    speeches();
    misfitCounts();
    beats();
    possibles();
    tallies();
    makings();
    learning();
    forgetting();
    costs();
    undoing();
    undoneWords();
    abouts();
    tell("all promises hold");
  }

  private static void newObject() {
    promise = "1 a new object";
    SyllableMaker x = new SyllableMaker();
    for (int what = 0; what <= 7; what++) due("about(" + what + ")", x.about(what), 0);
    for (int what = 10; what <= 15; what++) due("about(" + what + ")", x.about(what), 0);
    due("speech(0)", x.speech(0), NONE);
    due("sound(0, 0)", x.sound(0, 0), NONE);
    due("possible(1)", x.possible(1), 0);
    due("say of nothing", x.say(), NONE);
    due("fault(0)", x.fault(0), 2);
  }

  private static void feeding() {
    promise = "2 feed";
    SyllableMaker x = new SyllableMaker();
    // "sound a 9 peak;" and blanks
    due("feed", x.feed(0x736f756e, 0x64206120, 0x39207065, 0x616b3b20, 0x20202020), 20);
    due("law()", x.law(), 1);
    due("sound(0, 0)", x.sound(0, 0), 'a');
    for (int i = 1; i <= 45; i++) due("feed", x.feed(0x20202020, 0x20202020, 0x20202020, 0x20202020, 0x20202020), 20 * i);
    due("feed", x.feed(0, 0, 0, 0, 0), NONE);
    due("about(6)", x.about(6), 900);
    due("end(881)", x.end(881), 881);
    due("feed", x.feed(0, 0, 0, 0, 0), NONE);
    due("end(880)", x.end(880), 880);
    due("feed", x.feed(-1, 0, 0, 0, 0), 900);
    due("law()", x.law(), NONE);
    due("fault(1)", x.fault(1), 880);
  }

  private static void ending() {
    promise = "3 end";
    SyllableMaker x = new SyllableMaker();
    due("end(0)", x.end(0), 0);
    due("end(1)", x.end(1), NONE);
    x.feed(0, 0, 0, 0, 0);
    due("end(21)", x.end(21), NONE);
    due("end(-1)", x.end(-1), NONE);
    due("about(6)", x.about(6), 20);
    due("end(20)", x.end(20), 20);
    due("end(3)", x.end(3), 3);
    due("end(4)", x.end(4), NONE);
    due("about(6)", x.about(6), 3);
  }

  private static void laws() {
    promise = "4 law";
    SyllableMaker x = by(BASE + "word snata;", "past asi");
    due("about(6)", x.about(6), 0);
    due("learn(0)", x.learn(0), 101);
    due("a law with a FAULT", law(x, "sound z 1; x"), NONE);
    due("about(6)", x.about(6), 0);
    due("about(0)", x.about(0), 9);
    due("about(3)", x.about(3), 2);
    due("about(4)", x.about(4), 2);
    due("about(5)", x.about(5), 1);
    due("about(10)", x.about(10), 5);
    due("a new law", law(x, "sound z 1;sound o 5 peak;"), 2);
    due("about(0)", x.about(0), 2);
    due("about(1)", x.about(1), 0);
    due("about(2)", x.about(2), 0);
    due("about(3)", x.about(3), 0);
    due("about(4)", x.about(4), 0);
    due("about(5)", x.about(5), 0);
    due("about(10)", x.about(10), 0);
    due("undo()", x.undo(), NONE);
    due("opening of two", x.opening(0, 0, -1, -1), 0);
    due("an empty law", law(x, ""), 0);
    due("fault(0)", x.fault(0), 0);
    due("about(0)", x.about(0), 0);
    dueRight(" \n ", 0);
    // what stands without a line of its own
    SyllableMaker y = by("sound a 3 peak;sound b 3;sound c 4;sound d 2;", "abbbb abbbbb abc aa");
    due("four closing SOUNDS", y.judge(0, 0, 1), NONE);
    due("five closing SOUNDS", y.judge(1, 0, 1), 0);
    due("closing SOUNDS that climb", y.judge(2, 0, 1), 0);
    due("no rise", y.opening(3, 2, -1, -1), 0);
    due("weight of a LONG one", y.syllable(3, 0, 0, 4), 2);
    due("heavy from 2", y.syllable(3, 0, 0, 5), 1);
    due("no help", y.mend(0, -1), -2);
    due("move 1", by("sound a 3 peak;sound b 3;open bb;", "abb a").joins(1), 1);
  }

  private static void lawTokens() {
    promise = "4 law, tokens";
    dueRight("sound a9 peak;sound b0;", 2);
    dueRight("sound\na 009\npeak\n;", 1);
    dueFault("sound a 9peak;", 1, 8);
    dueRight("sound o 1;sound p 1;sound e 1;sound n 1;word open;open open;", 4);
    dueFault("sound a 9b;", 1, 8);
    dueFault("sound a 0009;", 1, 8);
    dueFault("sound abcdefghijklm 9;", 1, 6);
    dueFault("sound abcdefghijkl 9;", 4, 6);
    dueFault("Sound a 9;", 1, 0);
    dueFault("sound a 9\t;", 1, 9);
    dueFault("sound a 9;" + (char) 233, 1, 10);
    dueFault("sound a 9;" + (char) 0, 1, 10);
    dueFault("sound a -9;", 1, 8);
    dueFault("sounda 9;", 2, 0);
    dueFault("hound a 9;", 2, 0);
    dueFault("soune a 9;", 2, 0);
    dueFault("cost dare 9;", 2, 5);
    dueFault("sound a 9 beak;", 2, 10);
    dueFault("sound a 9 peakX;", 1, 14);
    dueFault("sound a 1000z;", 1, 8);
  }

  private static void lawFaults() {
    promise = "4 law, faults";
    dueFault("sound", 2, 5);
    dueFault("sound a 9  ", 2, 11);
    dueFault("sound a 9 peak peak;", 2, 15);
    dueFault("sound a peak;", 2, 8);
    dueFault("sound 9;", 2, 6);
    dueFault(";", 2, 0);
    dueFault("9;", 2, 0);
    dueFault("sound a 9;;", 2, 10);
    dueFault("sound a 10;", 4, 8);
    dueFault("sound a 9;sound a 10;", 3, 16);
    dueFault("sound a 9;sound aa 1;", 4, 16);
    dueFault("word a;sound a 9;", 3, 5);
    String two = "sound a 9 peak;sound e 9 peak;sound b 1;sound c 2;";
    dueFault(two + "open b;", 4, 55);
    dueFault(two + "open bbbbb;", 4, 55);
    dueFault(two + "open bbbbz;", 3, 55);
    dueFault(two + "open ba;", 3, 55);
    dueFault(two + "open zbbbb;", 3, 55);
    dueFault(two + "open aaaaa;", 3, 55);
    dueFault(two + "open bc;open bc;", 4, 63);
    dueRight(two + "open bc;open cb;open bcbc;open bcb;", 4);
    dueFault(two + "glide aa;", 4, 56);
    dueFault(two + "glide ab;", 3, 56);
    dueFault(two + "glide a;", 4, 56);
    dueFault(two + "glide aea;", 4, 56);
    dueFault(two + "glide ae;glide ae;", 4, 65);
    dueRight(two + "glide ae;glide ea;", 4);
    dueFault(two + "help b;", 3, 55);
    dueFault(two + "help ae;", 4, 55);
    dueFault(two + "help ab;", 3, 55);
    dueFault(two + "help z;", 3, 55);
    dueFault(two + "word abz;", 3, 55);
    dueFault(two + "word ;", 2, 55);
    dueRight(two + "word bb;word abcabcabcabc;", 4);
    dueFault("rise 10;", 4, 5);
    dueFault("rise 1;rise 1;", 2, 7);
    dueFault("close 5 0;", 4, 6);
    dueFault("close 4 10;", 4, 8);
    dueFault("close 4;", 2, 7);
    dueFault("close 4 0;close 4 0;", 2, 10);
    dueFault("weigh 1 2 1;", 2, 11);
    dueFault("weigh 10 2 1 2;", 4, 6);
    dueFault("weigh 1 10 1 2;", 4, 8);
    dueFault("weigh 1 2 10 2;", 4, 10);
    dueFault("weigh 1 2 1 0;", 4, 12);
    dueFault("weigh 1 2 1 100;", 4, 12);
    dueRight("weigh 9 9 9 99;rise 9;close 4 9;stress 4 9;move 4;", 0);
    dueRight("weigh 0 0 0 1;rise 0;close 0 0;stress 1 0;move 0;", 0);
    dueFault("weigh 1 2 1 2;weigh 1 2 1 2;", 2, 14);
    dueFault("stress 0;", 4, 7);
    dueFault("stress 5;", 4, 7);
    dueFault("stress 4 10;", 4, 9);
    dueFault("stress 4 9 9;", 2, 11);
    dueFault("stress;", 2, 6);
    dueFault("stress 1;stress 1;", 2, 9);
    dueFault("move 5;", 4, 5);
    dueFault("move 1;move 1;", 2, 7);
    dueFault(two + "help a;help a;", 2, 57);
    dueFault("cost bar 1;", 2, 5);
    dueFault("cost 1 1;", 2, 5);
    dueFault("cost bare;", 2, 9);
    dueFault("cost bare 1000;", 1, 10);
    dueFault("cost bare 1;cost shut 1;cost bare 1;", 2, 29);
    dueRight("cost bare 999;cost shut 0;cost rough 1;cost wild 2;cost burst 3;cost clash 4;", 0);
    dueFault("cost bare 9;cost shut 0;cost rough 1;cost wild 2;cost burst 3;cost clash 4;cost wild 1;", 2, 80);
  }

  private static void lawLimits() {
    promise = "4 law, one too many";
    dueRight(sounds(16), 16);
    dueFault(sounds(17), 5, sounds(16).length());
    dueFault(sounds(16) + "sound a 99", 5, sounds(16).length());
    String law = sounds(16);
    for (int i = 0; i < 12; i++) law += "open g" + "ghijklmnop".charAt(i % 10) + (i < 10 ? "" : "g") + ";";
    dueRight(law, 16);
    dueFault(law + "open ggg;", 5, law.length());
    law = sounds(16) + "glide ab;glide ac;glide ad;glide ae;glide af;glide ba;";
    dueRight(law, 16);
    dueFault(law + "glide ab;", 5, law.length());
    law = sounds(16);
    for (int i = 0; i < 20; i++) law += "word a;";
    dueRight(law, 16);
    dueFault(law + "word a;", 5, law.length());
  }

  private static void dueSpeech(String speech, int got, int fault, int place) {
    SyllableMaker x = by(BASE, "past");
    due("say " + speech, say(x, speech), got);
    due("fault(0) of " + speech, x.fault(0), fault);
    due("fault(1) of " + speech, x.fault(1), place);
    due("about(6)", x.about(6), 0);
    due("about(4)", x.about(4), got == NONE ? 1 : got);
  }

  private static void saying() {
    promise = "5 say";
    dueSpeech("past asi tapn", 3, 0, NONE);
    dueSpeech(" \npast\n asi ", 2, 0, NONE);
    dueSpeech("a a a a a a a a", 8, 0, NONE);
    dueSpeech("a a a a a a a a pp", NONE, 5, 16);
    dueSpeech("a a a a a a a a z", NONE, 3, 16);
    dueSpeech("a a a a a a a a 1", NONE, 2, 16);
    dueSpeech("a a a a a a a a X", NONE, 1, 16);
    dueSpeech("", NONE, 2, 0);
    dueSpeech("  ", NONE, 2, 2);
    dueSpeech("past 12", NONE, 2, 5);
    dueSpeech("past;", NONE, 2, 4);
    dueSpeech("past 12a", NONE, 1, 5);
    dueSpeech("past pazt", NONE, 3, 5);
    dueSpeech("past papapapapapap", NONE, 1, 5);
    dueSpeech("past papapapapapa", 2, 0, NONE);
    SyllableMaker x = by(BASE, "past");
    StringBuilder text = new StringBuilder("asi");
    while (text.length() < 201) text.append(' ');
    put(x, text.toString());
    due("say() of 201 bytes", x.say(), -2);
    due("about(6)", x.about(6), 201);
    due("about(4)", x.about(4), 1);
    due("at(0, 0)", x.at(0, 0), P);
    x.end(200);
    due("say() of 200 bytes", x.say(), 1);
    due("at(0, 0)", x.at(0, 0), A);
    due("learn(0)", x.learn(0), 100);
    due("say keeps ACTS", say(x, "ta"), 1);
    due("about(5)", x.about(5), 1);
  }

  private static void faults() {
    promise = "6 fault";
    SyllableMaker x = new SyllableMaker();
    due("fault(0)", x.fault(0), 0);
    due("fault(1)", x.fault(1), NONE);
    due("fault(2)", x.fault(2), NONE);
    due("fault(-1)", x.fault(-1), NONE);
    law(x, "rise 10;");
    due("fault(0)", x.fault(0), 4);
    due("fault(1)", x.fault(1), 5);
    due("fault(2)", x.fault(2), NONE);
    for (int i = 0; i < 11; i++) x.feed(0, 0, 0, 0, 0);
    due("say() that does not read", x.say(), -2);
    due("fault(0)", x.fault(0), 4);
    x.end(0);
    due("say()", x.say(), NONE);
    due("fault(0)", x.fault(0), 2);
    due("fault(1)", x.fault(1), 0);
    law(x, "rise 9;");
    due("fault(0)", x.fault(0), 0);
    due("fault(1)", x.fault(1), NONE);
  }

  private static void sounds() {
    promise = "7 sound";
    SyllableMaker x = by("sound z 0;sound b 9 peak;sound c 4;", "");
    due("sound(0, 0)", x.sound(0, 0), 'z');
    due("sound(0, 1)", x.sound(0, 1), 0);
    due("sound(0, 2)", x.sound(0, 2), 0);
    due("sound(1, 0)", x.sound(1, 0), 'b');
    due("sound(1, 1)", x.sound(1, 1), 9);
    due("sound(1, 2)", x.sound(1, 2), 1);
    due("sound(2, 1)", x.sound(2, 1), 4);
    due("sound(3, 0)", x.sound(3, 0), NONE);
    due("sound(-1, 0)", x.sound(-1, 0), NONE);
    due("sound(0, 3)", x.sound(0, 3), NONE);
    due("sound(0, -1)", x.sound(0, -1), NONE);
    due("sound(16, 0)", x.sound(16, 0), NONE);
    due("sound(max, 0)", x.sound(Integer.MAX_VALUE, 0), NONE);
  }

  private static void openings() {
    promise = "8 opening";
    SyllableMaker x = by(BASE + "word snata;word stata;word pptta;word psl;word plnra;", "");
    due("none", x.opening(-1, A, 99, 5), 1);
    due("one", x.opening(P, -1, A, 99), 1);
    due("st, told, and learnt", x.opening(S, T, -1, -1), 2);
    due("sn, learnt", x.opening(S, N, -1, -1), 3);
    due("pptt, learnt", x.opening(P, P, T, T), 3);
    due("plnr, learnt", x.opening(P, L, N, R), 3);
    due("ppt, a part alone", x.opening(P, P, T, -1), 0);
    due("psl, of a word without HEARTS", x.opening(P, S, L, -1), 0);
    due("pl, rising", x.opening(P, L, -1, -1), 4);
    due("pn, rising by just 3", x.opening(P, N, -1, -1), 4);
    due("ps, rising by 1", x.opening(P, S, -1, -1), 0);
    due("ts", x.opening(T, S, -1, -1), 0);
    due("rp, falling", x.opening(R, P, -1, -1), 0);
    due("pnr, the second less", x.opening(P, N, R, -1), 0);
    due("a PEAK", x.opening(P, A, -1, -1), NONE);
    due("a PEAK alone", x.opening(I, -1, -1, -1), NONE);
    due("no SOUND", x.opening(P, 9, -1, -1), NONE);
    due("below NONE", x.opening(-2, -1, -1, -1), NONE);
    due("the fourth no SOUND", x.opening(P, P, P, 100), NONE);
    SyllableMaker y = by("sound a 9 peak;sound b 0;sound c 3;sound d 6;sound e 9;rise 3;open bc;word bca;word bcda;", "");
    due("bc, told, learnt, rising", y.opening(1, 2, -1, -1), 2);
    due("bcd, learnt, rising", y.opening(1, 2, 3, -1), 3);
    due("bcde, rising", y.opening(1, 2, 3, 4), 4);
    due("rise 0", by("sound b 4;rise 0;", "").opening(0, 0, 0, 0), 4);
    due("no rise", by("sound b 0;sound c 9;", "").opening(0, 1, -1, -1), 0);
  }

  private static void words() {
    promise = "9 word";
    SyllableMaker x = by(BASE + "word snata;word asta;word st;", "past asi tapn pst aaia taista");
    due("SOUNDS", x.word(0, 0), 4);
    due("SYLLABLES of asi", x.word(1, 1), 2);
    due("COST of past", x.word(0, 3), 4);
    due("COST of asi", x.word(1, 3), 5);
    due("COST of tapn", x.word(2, 3), 11);
    due("pst: SYLLABLES", x.word(3, 1), 0);
    due("pst: SOUNDS", x.word(3, 0), 3);
    due("pst: STRESS", x.word(3, 2), NONE);
    due("pst: COST", x.word(3, 3), NONE);
    due("pst: CHEAPEST", x.word(3, 4), NONE);
    due("pst: cuts", x.word(3, 5), 0);
    due("aaia: aa, i, a", x.word(4, 1), 3);
    due("aaia: one cut", x.word(4, 5), 1);
    due("taista: tai, sta", x.word(5, 1), 2);
    due("taista: cuts", x.word(5, 5), 3);
    due("learnt", x.word(100, 0), 5);
    due("learnt cuts", x.word(101, 5), 3);
    due("learnt, no HEARTS", x.word(102, 5), 0);
    due("none such", x.word(6, 0), NONE);
    due("none such", x.word(103, 0), NONE);
    due("none such", x.word(-1, 0), NONE);
    due("none such", x.word(99, 0), NONE);
    due("what 6", x.word(0, 6), NONE);
    due("what -1", x.word(0, -1), NONE);
    // apla: plain a.pla costs bare + rough; ap.la costs bare + shut
    SyllableMaker y = by("sound a 9 peak;sound p 1;sound l 5;rise 3;cost rough 3;cost shut 2;cost bare 1;cost wild 50;", "apla apala");
    due("apla PLAIN", y.word(0, 3), 4);
    due("apla CHEAPEST", y.word(0, 4), 3);
    due("apala PLAIN", y.word(1, 3), 1);
    due("apala cuts", y.word(1, 5), 4);
    due("clash", clashOf("cost clash 7;weigh 1 2 1 2;"), 7);
    due("no clash of light ones", clashOf("cost clash 7;weigh 1 2 1 3;"), 0);
    due("HEARTS in their order", by("sound a 9 peak;sound e 9 peak;glide ae;", "aae eae aea").word(0, 1), 2);
    due("glide in this order alone", by("sound a 9 peak;sound e 9 peak;glide ae;", "ea").word(0, 1), 2);
    due("the most cuts", by("sound a 9 peak;sound b 1;", "abbabbabbaba").word(0, 5), 54);
  }

  private static int clashOf(String more) {
    return by("sound a 9 peak;sound b 1;" + more, "babbab").word(0, 3);
  }

  private static int stressOf(String line, String word) {
    return by("sound a 9 peak;sound b 1;" + line, word).word(0, 2);
  }

  private static void stresses() {
    promise = "9 word, STRESS";
    due("the last but one without a line", stressOf("", "babababa"), 2);
    due("of one alone", stressOf("", "ba"), 0);
    due("the last", stressOf("stress 1;", "babababa"), 3);
    due("the first, if there are fewer", stressOf("stress 4;", "bababa"), 0);
    due("just so many", stressOf("stress 3;", "bababa"), 0);
    due("the fourth from the end", stressOf("stress 4;", "bababababa"), 1);
    due("a HEAVY one of none looked at", stressOf("stress 1;", "baababa"), 2);
    due("a HEAVY one of the last three", stressOf("stress 1 3;", "baababa"), 0);
    due("a HEAVY one ahead of the last two", stressOf("stress 1 2;", "baababa"), 2);
    due("the last HEAVY one", stressOf("stress 1 9;", "baabaababa"), 1);
    due("the very last aside", stressOf("stress 2 9;", "bababaa"), 1);
    due("the very last alone", stressOf("stress 1 1;", "babaabaa"), 2);
    due("HEAVY by PLAIN CUT", stressOf("stress 1 9;", "babbaba"), 0);
  }

  private static void sites() {
    promise = "10 at";
    SyllableMaker x = by(BASE + "word snata;", "past");
    int[] past = {P, A, S, T};
    for (int i = 0; i < 4; i++) due("at(0, " + i + ")", x.at(0, i), past[i]);
    due("at(0, 4)", x.at(0, 4), NONE);
    due("at(0, -1)", x.at(0, -1), NONE);
    due("at(1, 0)", x.at(1, 0), NONE);
    due("at(100, 1)", x.at(100, 1), N);
    due("at(100, 5)", x.at(100, 5), NONE);
    due("at(101, 0)", x.at(101, 0), NONE);
    due("at(-1, 0)", x.at(-1, 0), NONE);
  }

  private static void syllables() {
    promise = "11 syllable";
    SyllableMaker x = by(BASE + "word snata;word asta;", "past asi apla pst tapstrain");
    dueSyllable(x, 0, 0, 0, 0, 1, 1, 2, 3, 1, 4);
    dueSyllable(x, 1, 0, 0, 0, 0, 1, 0, 1, 0, 5);
    dueSyllable(x, 1, 0, 1, 1, 1, 1, 0, 1, 0, 0);
    // a.pla: bare 5, rough 3; ap.la: bare 5, shut 2
    dueSyllable(x, 2, 0, 0, 0, 0, 1, 0, 1, 0, 5);
    dueSyllable(x, 2, 0, 1, 1, 2, 1, 0, 1, 0, 3);
    dueSyllable(x, 2, 1, 0, 0, 0, 1, 1, 2, 1, 7);
    dueSyllable(x, 2, 1, 1, 2, 1, 1, 0, 1, 0, 0);
    // taps.train: ps climbs, so burst 7; HEAVY twice, so clash 4; tr is rising
    dueSyllable(x, 4, 0, 0, 0, 1, 1, 2, 3, 1, 11);
    dueSyllable(x, 4, 0, 1, 4, 2, 2, 1, 3, 1, 9);
    // JOINED: pas.t asi
    dueSyllable(x, 0, 2, 0, 0, 1, 1, 1, 2, 1, 2);
    dueSyllable(x, 1, 2, 0, -1, 1, 1, 0, 1, 0, 0);
    dueSyllable(x, 1, 2, 1, 1, 1, 1, 0, 1, 0, 0);
    due("no SYLLABLES", x.syllable(3, 0, 0, 0), -100);
    due("none such", x.syllable(0, 0, 1, 0), -100);
    due("none such", x.syllable(0, 0, -1, 0), -100);
    due("none such", x.syllable(5, 0, 0, 0), -100);
    due("none such", x.syllable(-1, 2, 0, 0), -100);
    due("none such", x.syllable(5, 2, 0, 0), -100);
    due("what 7", x.syllable(0, 0, 0, 7), -100);
    due("what -1", x.syllable(0, 0, 0, -1), -100);
    due("cut 3", x.syllable(0, 3, 0, 0), -100);
    due("cut -1", x.syllable(0, -1, 0, 0), -100);
    due("learnt, PLAIN", x.syllable(100, 0, 1, 0), 3);
    due("learnt, CHEAPEST", x.syllable(101, 1, 1, 0), 1);
    due("learnt, JOINED", x.syllable(100, 2, 0, 0), -100);
    // ab.cb.a: of like COSTS the first row
    SyllableMaker y = by("sound a 9 peak;sound b 1;sound c 2;open bc;", "abcba abca");
    due("the first of like ones", y.syllable(0, 1, 1, 0), 1);
    due("the longest told one", y.syllable(1, 0, 1, 0), 1);
    // JOINED by the rise alone: rough; what stays is LEGAL, where all was not
    SyllableMaker v = by("sound a 9 peak;sound b 1;weigh 3 5 4 13;", "aab abb babb");
    dueSyllable(v, 0, 0, 0, 0, 0, 2, 1, 9, 0);
    dueSyllable(v, 1, 0, 0, 0, 0, 1, 2, 11, 0);
    due("HEAVY from just 1", by("sound a 9 peak;weigh 1 0 0 1;", "a").syllable(0, 0, 0, 5), 1);
    due("HEAVY of LONG ones, 0", by("sound a 9 peak;weigh 1 0 0 1;", "aa").syllable(0, 0, 0, 5), 0);
    SyllableMaker z = by("sound a 9 peak;sound p 1;sound r 6;rise 3;move 2;cost rough 3;cost burst 7;cost clash 2;close 4 1;", "apr arr");
    dueSyllable(z, 0, 0, 0, 0, 0, 1, 2, 3, 1, 7);
    dueSyllable(z, 0, 2, 0, 0, 0, 1, 0, 1, 0, 0);
    dueSyllable(z, 1, 2, 0, -2, 2, 1, 2, 3, 1, 10);
    // clash by the one ahead in its WORD alone
    SyllableMaker w = by("sound a 9 peak;sound b 1;cost clash 5;", "bab bab");
    dueSyllable(w, 1, 2, 0, 0, 1, 1, 1, 2, 1, 0);
  }

  private static void judging() {
    promise = "12 judge";
    SyllableMaker x = by(BASE, "past asi tapn pst astastasta taraprana");
    due("COST", x.judge(1, 1, 0), 12);
    due("all LEGAL", x.judge(1, 1, 1), NONE);
    due("one costs less", x.judge(1, 1, 2), 1);
    due("none costs less", x.judge(1, 0, 2), 0);
    due("a digit too much", x.judge(1, 2, 0), -2);
    due("behind the last GAP", x.judge(1, 16, 0), -2);
    due("far behind the last GAP", x.judge(1, 1L << 62, 0), -2);
    due("below 0", x.judge(1, -1, 0), -2);
    due("the least", x.judge(1, Long.MIN_VALUE, 0), -2);
    due("what 3", x.judge(1, 0, 3), -2);
    due("what -1", x.judge(1, 0, -1), -2);
    due("no such WORD", x.judge(6, 0, 0), -2);
    due("no such WORD", x.judge(100, 0, 0), -2);
    due("no HEARTS", x.judge(3, 0, 0), -2);
    due("no GAP", x.judge(0, 0, 0), 4);
    due("no GAP, a digit", x.judge(0, 1, 0), -2);
    due("a CLOSING not LEGAL", x.judge(2, 0, 1), 0);
    // as.ta.stast.a by the digits 1, 0, 2: the first GAP's is the lowest
    due("three GAPS", x.judge(4, 0x201, 0), 5 + 2 + 0 + 4 + 5 + 0 + 0);
    due("three GAPS, another way", x.judge(4, 0x102, 0), 5 + 4 + 5 + 0 + 2 + 0);
    due("three GAPS, too much", x.judge(4, 0x301, 0), -2);
    // ta.ra.pra.na: rpr not cut
    due("an OPENING not LEGAL", x.judge(5, 0x010, 1), NONE);
    due("the COST of shut", x.judge(5, 0x010, 0), 2);
    SyllableMaker y = by("sound a 9 peak;sound b 1;sound c 2;cost wild 5;cost shut 1;close 1 0;", "abcabca");
    due("the first OPENING not LEGAL", y.judge(0, 0x01, 1), 2);
    due("both", y.judge(0, 0x00, 1), 1);
    due("a CLOSING too long", y.judge(0, 0x21, 1), 1);
    due("COST", y.judge(0, 0x01, 0), 6);
    due("those of less COST", y.judge(0, 0x01, 2), 4);
    due("those of less COST than 10", y.judge(0, 0x00, 2), 8);
  }

  private static void withins() {
    promise = "13 within";
    SyllableMaker x = by(BASE + "word asta;", "past asi pst");
    due("within(1, 4)", x.within(1, 4), 0);
    due("within(1, 5)", x.within(1, 5), 1);
    due("within(1, 11)", x.within(1, 11), 1);
    due("within(1, 12)", x.within(1, 12), 2);
    due("within(1, max)", x.within(1, Integer.MAX_VALUE), 2);
    due("within(1, min)", x.within(1, Integer.MIN_VALUE), 0);
    due("within(100, max)", x.within(100, Integer.MAX_VALUE), 3);
    due("no HEARTS", x.within(2, Integer.MAX_VALUE), 0);
    due("none such", x.within(3, 0), NONE);
    due("none such", x.within(101, 0), NONE);
  }

  private static void rhymes() {
    promise = "14 rhyme";
    SyllableMaker x = by("sound a 9 peak;sound e 9 peak;sound b 1;sound c 2;sound d 3;stress 2;word caba;", "baca daca badaca baba bcd cd dacae aca");
    due("bACA, dACA", x.rhyme(0, 1), 1);
    due("the STRESSED one is not the first", x.rhyme(0, 2), 1);
    due("without an OPENING", x.rhyme(7, 0), 1);
    due("another OPENING behind", x.rhyme(0, 3), 0);
    due("more behind", x.rhyme(0, 6), 0);
    due("itself", x.rhyme(3, 3), 1);
    due("without SYLLABLES", x.rhyme(4, 4), 0);
    due("without SYLLABLES, two", x.rhyme(4, 5), 0);
    due("one without", x.rhyme(0, 4), 0);
    due("none such", x.rhyme(0, 8), NONE);
    due("none such", x.rhyme(8, 0), NONE);
    due("learnt", x.rhyme(100, 0), NONE);
    due("learnt", x.rhyme(0, 100), NONE);
    due("none such", x.rhyme(-1, 0), NONE);
    due("the CLOSING counts", by("sound a 9 peak;sound b 1;", "ba bab").rhyme(0, 1), 0);
  }

  private static void mending() {
    promise = "15 mend";
    SyllableMaker x = by(BASE + "help i;word tapn;", "tapn plrt spa past t pppppp ppppppppp");
    dueMended(x, 0, 3);
    dueMended(x, 1, 2);
    dueMended(x, 2, 0);
    dueMended(x, 3);
    dueMended(x, 4, 0);
    dueMended(x, 100, 3);
    // pppppp: p i p p i p p i p would leave pp, no CLOSING; ip.pip.pip.p needs one more
    dueMended(x, 5, 1, 3, 5);
    due("more than 12", x.mend(6, NONE), -2);
    due("more than 12, a place", x.mend(6, 0), -2);
    due("none such", x.mend(7, NONE), NONE);
    due("none such", x.mend(101, NONE), NONE);
    due("mend(0, -2)", x.mend(0, -2), NONE);
    SyllableMaker y = by(BASE, "tapn past");
    due("help is not told", y.mend(0, NONE), -2);
    due("help is not told, nothing to mend", y.mend(1, NONE), -2);
    due("help is not told, a place", y.mend(1, 0), -2);
    due("help is not told, none such", y.mend(2, 0), NONE);
    SyllableMaker z = by("sound a 9 peak;sound b 1;close 0 0;help a;", "b abb bbbb bbbbbb bbbbbbb");
    dueMended(z, 0, 1);
    dueMended(z, 1, 2, 3);
    dueMended(z, 2, 1, 2, 3, 4);
    dueMended(z, 3, 1, 2, 3, 4, 5, 6);
    due("14 SOUNDS", z.mend(4, NONE), -2);
    due("by a LONG one", by("sound a 9 peak;sound b 1;open bb;close 0 0;help a;", "bbbba").mend(0, 0), 2);
  }

  private static void distances() {
    promise = "16 far";
    SyllableMaker x = by("sound a 9 peak;sound e 9 peak;sound b 1;sound c 1;sound d 7;sound f 0;word bad;word bbb;", "b c d a e f ba aba");
    due("alike", x.far(0, 0), 0);
    due("as OPEN as each other", x.far(0, 1), 1);
    due("less OPEN", x.far(0, 2), 6);
    due("two PEAKS", x.far(3, 4), 1);
    due("a PEAK for none", x.far(2, 3), 5);
    due("left out and put in is less", x.far(3, 5), 10);
    due("put in", x.far(0, 6), 5);
    due("left out", x.far(6, 0), 5);
    due("put in ahead", x.far(6, 7), 5);
    due("three for one", x.far(100, 4), 11);
    due("one for three", x.far(4, 100), 11);
    due("two ahead left out", x.far(100, 2), 10);
    due("two ahead put in", x.far(2, 100), 10);
    // the a left out, two b put in: less than b for a
    due("two of three", x.far(6, 101), 15);
    due("learnt", x.far(100, 0), 10);
    due("both learnt", x.far(100, 100), 0);
    due("none such", x.far(0, 8), NONE);
    due("none such", x.far(8, 0), NONE);
    due("none such", x.far(102, 100), NONE);
    due("none such", x.far(100, -1), NONE);
  }

  private static void nearests() {
    promise = "17 nearest";
    SyllableMaker x = by("sound a 9 peak;sound b 1;sound c 1;sound d 7;word dad;word bab;word cab;word bab;", "bab bac dadd d");
    due("alike", x.nearest(0), 101);
    due("the first of like ones", x.nearest(1), 101);
    due("nearest(2)", x.nearest(2), 100);
    due("not itself", x.nearest(101), 103);
    due("not itself", x.nearest(103), 101);
    due("nearest(102)", x.nearest(102), 101);
    due("none such", x.nearest(4), NONE);
    due("none such", x.nearest(104), NONE);
    SyllableMaker y = by("sound a 9 peak;word a;", "aa");
    due("no other one", y.nearest(100), NONE);
    due("the one", y.nearest(0), 100);
    due("none learnt", by("sound a 9 peak;", "a").nearest(0), NONE);
  }

  private static void partings() {
    promise = "18 parts";
    SyllableMaker x = by("sound a 9 peak;sound b 1;word a;word aa;word a;word ba;word ab;", "a aa aaa aaba b aaaaaaaaaaaa abab");
    due("a", x.parts(0), 1);
    due("aa", x.parts(1), 2);
    due("aaa", x.parts(2), 3);
    due("aaba: a a ba, aa ba, a ab a", x.parts(3), 3);
    due("b", x.parts(4), 0);
    due("twelve", x.parts(5), 233);
    due("abab", x.parts(6), 1);
    due("learnt", x.parts(101), 2);
    due("none such", x.parts(7), NONE);
    due("none such", x.parts(105), NONE);
    due("none learnt", by("sound a 9 peak;", "a").parts(0), 0);
    StringBuilder law = new StringBuilder("sound a 9 peak;");
    for (String word = "a"; word.length() <= 12; word += "a") law.append("word ").append(word).append(';');
    due("the most", by(law.toString(), "aaaaaaaaaaaa").parts(0), 2048);
  }

  private static void hillCounts() {
    promise = "19 hills";
    SyllableMaker x = by("sound a 9 peak;sound b 1;sound c 1;sound d 5;sound e 9 peak;word bab;", "b bcb bab aab abd dabad abbe adde");
    due("b", x.hills(0), 1);
    due("bcb, all as OPEN", x.hills(1), 1);
    due("bab", x.hills(2), 1);
    due("aab", x.hills(3), 1);
    due("abd", x.hills(4), 2);
    due("dabad", x.hills(5), 2);
    due("abbe", x.hills(6), 2);
    due("adde", x.hills(7), 2);
    due("learnt", x.hills(100), 1);
    due("none such", x.hills(8), NONE);
    due("none such", x.hills(101), NONE);
    say(x, "dbbd badda eab bdcab");
    due("dbbd", x.hills(0), 2);
    due("badda", x.hills(1), 2);
    due("eab", x.hills(2), 1);
    due("bdcab", x.hills(3), 2);
    say(x, "baddd dddb bddda");
    due("baddd", x.hills(0), 1);
    due("dddb", x.hills(1), 1);
    due("bddda", x.hills(2), 1);
  }

  private static void joinings() {
    promise = "20 joins";
    SyllableMaker x = by(BASE, "past asi tapn past ta st a");
    int[] want = {0, 1, 0, 0, 0, 0, 0};
    for (int k = 0; k < want.length; k++) due("joins(" + k + ")", x.joins(k), want[k]);
    due("joins(7)", x.joins(7), NONE);
    due("joins(-1)", x.joins(-1), NONE);
    due("joins(100)", x.joins(100), NONE);
    String law = "sound a 9 peak;sound p 1;sound l 5;sound r 6;rise 1;word alr;word ppla;";
    String speech = "aplr a aplrp a appl alr a";
    int[][] by = {{0, 0, 0, 0, 0, 0}, {1, 1, 1}, {2, 1, 2}, {3, 1, 2}, {3, 1, 3}};
    for (int move = 0; move <= 4; move++) {
      SyllableMaker y = by(law + "move " + move + ";", speech);
      due("plr by " + move, y.joins(1), by[move][0]);
      due("plrp by " + move, y.joins(3), by[move][1]);
      due("ppl by " + move, y.joins(5), move == 0 ? 0 : move == 1 ? 1 : move == 2 ? 2 : 3);
      due("lr by " + move, y.joins(6), Math.min(move, 2));
    }
    // the closing as it is alone: what came to it, what goes from it
    SyllableMaker z = by("sound a 9 peak;sound b 1;", "ab ab ab");
    due("one goes over to each", z.joins(1) + z.joins(2), 2);
    due("it begins ahead", z.syllable(1, 2, 0, 0), -1);
    due("its OPENING", z.syllable(1, 2, 0, 1), 1);
    due("its CLOSING", z.syllable(1, 2, 0, 3), 0);
    due("no SYLLABLES ahead", by("sound a 9 peak;sound b 1;", "b a").joins(1), 0);
  }

  private static void speeches() {
    promise = "21 speech";
    SyllableMaker x = by(BASE, "past asi tapn");
    due("HEAVY, JOINED", x.speech(0), 2);
    due("HEAVY, PLAIN", x.speech(1), 2);
    due("otherwise", x.speech(2), 2);
    due("speech(3)", x.speech(3), NONE);
    due("speech(-1)", x.speech(-1), NONE);
    SyllableMaker y = by("sound a 9 peak;sound b 1;", "ab ab ab ba b");
    due("HEAVY, JOINED", y.speech(0), 1);
    due("HEAVY, PLAIN", y.speech(1), 3);
    due("one that is changed at both ends is one", y.speech(2), 3);
    due("no SYLLABLES", by("sound b 1;", "b").speech(2), 0);
    due("no SPEECH", by("sound b 1;", "").speech(0), NONE);
    due("no SPEECH", by("sound b 1;", "").speech(2), NONE);
  }

  private static void misfitCounts() {
    promise = "22 misfits";
    // STRESSED: 0 of babab.., SYLLABLES 0 1 | 2 3 4 | 5: stress 2 tells 0, 3, 5
    SyllableMaker x = by("sound a 9 peak;sound b 1;", "baba b bababa ba");
    due("misfits(2, 0)", x.misfits(2, 0), 4);
    due("misfits(2, 1)", x.misfits(2, 1), 2);
    due("misfits(3, 0)", x.misfits(3, 0), 1);
    due("misfits(3, 2)", x.misfits(3, 2), 3);
    due("misfits(4, 3)", x.misfits(4, 3), 2);
    due("misfits(1, 0)", x.misfits(1, 0), NONE);
    due("misfits(5, 0)", x.misfits(5, 0), NONE);
    due("misfits(0, 0)", x.misfits(0, 0), NONE);
    due("misfits(2, 2)", x.misfits(2, 2), NONE);
    due("misfits(4, -1)", x.misfits(4, -1), NONE);
    due("no SYLLABLES", by("sound b 1;", "b").misfits(2, 0), NONE);
    due("no SPEECH", by("sound b 1;", "").misfits(2, 0), NONE);
    due("f behind the last SYLLABLE", by("sound a 9 peak;sound b 1;", "ba").misfits(4, 3), 1);
  }

  private static void beats() {
    promise = "23 beat";
    SyllableMaker x = by("sound a 9 peak;sound b 1;", "baba b bababa ba");
    due("n", x.beat(0), 3);
    due("f", x.beat(1), 0);
    due("MISFITS", x.beat(2), 1);
    due("beat(3)", x.beat(3), NONE);
    due("beat(-1)", x.beat(-1), NONE);
    due("no SYLLABLES", by("sound b 1;", "b").beat(0), NONE);
    due("no SPEECH", by("sound b 1;", "").beat(2), NONE);
    // one SYLLABLE: n 2, 3, 4 with f 0 fit alike
    SyllableMaker y = by("sound a 9 peak;sound b 1;stress 1;", "ba");
    due("the least n", y.beat(0), 2);
    due("the least f", y.beat(1), 0);
    due("none", y.beat(2), 0);
    SyllableMaker z = by("sound a 9 peak;sound b 1;stress 1;", "baba baba");
    due("n", z.beat(0), 2);
    due("f", z.beat(1), 1);
    due("none", z.beat(2), 0);
    // all are STRESSED: 2, 0 and 2, 1 fit alike
    SyllableMaker w = by("sound a 9 peak;sound b 1;", "ba ba");
    due("the least f", w.beat(1), 0);
    due("MISFITS", w.beat(2), 1);
    SyllableMaker v = by("sound a 9 peak;sound b 1;stress 1;", "babababa babababa");
    due("n 4", v.beat(0), 4);
    due("f 3", v.beat(1), 3);
  }

  private static void possibles() {
    promise = "24 possible";
    SyllableMaker x = by("sound a 9 peak;sound e 9 peak;sound b 1;sound c 5;glide ae;rise 4;close 1 0;open cc;word bba;word bca;word cca;word bba;", "");
    // OPENINGS: 1; 2; bc, cc, bb; CLOSINGS: 1; 2; HEARTS: 2; 3
    due("possible(1)", x.possible(1), 2);
    due("possible(2)", x.possible(2), 2 * 2 + 2 * 2 + 3);
    due("possible(3)", x.possible(3), 3 * 2 + 2 * 2 * 2 + 2 * 3 + 3 * 2);
    due("possible(4)", x.possible(4), 2 * (3 * 2) + 3 * (3 + 2 * 2));
    due("possible(5)", x.possible(5), 3 * 3 * 2);
    due("possible(6)", x.possible(6), 0);
    due("possible(0)", x.possible(0), NONE);
    due("possible(7)", x.possible(7), NONE);
    due("possible(-1)", x.possible(-1), NONE);
    due("no closing SOUNDS", by("sound a 9 peak;sound b 1;close 0 0;", "").possible(2), 2);
    SyllableMaker y = by("sound a 9 peak;sound b 1;sound c 2;sound d 3;sound e 4;rise 1;close 4 1;", "");
    // OPENINGS and CLOSINGS: 1, 4, 6, 4, 1
    due("possible(5)", y.possible(5), (1 + 16 + 36 + 16 + 1) + (4 + 24 + 24 + 4));
    due("possible(6)", y.possible(6), (4 + 24 + 24 + 4) + (1 + 16 + 36 + 16 + 1));
    SyllableMaker z = by("sound a 9 peak;sound b 1;rise 0;close 4 0;word bbbbba;", "");
    due("an OPENING of five is none", z.possible(6), 4 + 5);
  }

  private static void tallies() {
    promise = "25 tally";
    SyllableMaker x = by(BASE + "word snata;word asta;word st;word tain;word sna;", "asta");
    // sn-a-, t-a-, -a-, st-a-, t-ai-n, sn-a-
    due("OPENINGS", x.tally(0, -1, 0), 4);
    due("HEARTS", x.tally(1, -1, -7), 2);
    due("CLOSINGS", x.tally(2, -1, 99), 2);
    due("sn: how often", x.tally(0, 0, 0), 2);
    due("sn: SOUNDS", x.tally(0, 0, 1), 2);
    due("sn: s", x.tally(0, 0, 2), S);
    due("sn: n", x.tally(0, 0, 3), N);
    due("sn: no more", x.tally(0, 0, 4), NONE);
    due("t: how often", x.tally(0, 1, 0), 2);
    due("nothing: how often", x.tally(0, 2, 0), 1);
    due("nothing: SOUNDS", x.tally(0, 2, 1), 0);
    due("nothing: none", x.tally(0, 2, 2), NONE);
    due("st", x.tally(0, 3, 3), T);
    due("a: how often", x.tally(1, 0, 0), 5);
    due("ai: SOUNDS", x.tally(1, 1, 1), 2);
    due("ai: i", x.tally(1, 1, 3), I);
    due("no CLOSING: how often", x.tally(2, 0, 0), 5);
    due("n", x.tally(2, 1, 2), N);
    due("none such", x.tally(0, 4, 0), NONE);
    due("none such", x.tally(0, -2, 0), NONE);
    due("none such", x.tally(0, Integer.MAX_VALUE, 0), NONE);
    due("what -1", x.tally(0, 0, -1), NONE);
    due("what max", x.tally(0, 0, Integer.MAX_VALUE), NONE);
    due("sort 3", x.tally(3, -1, 0), NONE);
    due("sort -1", x.tally(-1, -1, 0), NONE);
    x.learn(0);
    due("behind learn", x.tally(0, 3, 0), 2);
    x.forget(100);
    due("behind forget", x.tally(0, 0, 1), 0);
    SyllableMaker y = by("sound a 9 peak;sound b 1;word abbbbbbbbbbb;word bbbbbbbbbbba;", "");
    due("a long CLOSING", y.tally(2, 0, 1), 11);
    due("its last SOUND", y.tally(2, 0, 12), 1);
    due("behind it", y.tally(2, 0, 13), NONE);
    due("a long OPENING", y.tally(0, 1, 1), 11);
  }

  private static void makings() {
    promise = "26 made";
    SyllableMaker x = by("sound a 9 peak;sound e 9 peak;sound b 1;sound c 1;word ba;word cec;word cec;", "");
    // In all 3: b once, c twice; a once, e twice; nothing once, c twice.
    // The seed 0: 12345 >>> 16 = 0: b; -740551042 >>> 16 = 54236, % 3 = 2: e;
    // -1492899873 >>> 16 = 42756, % 3 = 0: nothing.
    due("how many", x.made(0, 1, -1), 2);
    due("b", x.made(0, 1, 0), 2);
    due("e", x.made(0, 1, 1), 1);
    due("no more", x.made(0, 1, 2), NONE);
    int seed = 99;
    int size = 0;
    String[][] all = {{"b", "c", "c"}, {"a", "e", "e"}, {"", "c", "c"}};
    for (int turn = 0; turn < 12; turn++) {
      seed = seed * 1103515245 + 12345;
      String row = all[turn % 3][(seed >>> 16) % 3];
      for (char c : row.toCharArray()) due("made(99, 4, " + size + ")", x.made(99, 4, size++), "aebc".indexOf(c));
    }
    due("made(99, 4, NONE)", x.made(99, 4, -1), size);
    due("made(99, 4, behind)", x.made(99, 4, size), NONE);
    due("made(0, 0, NONE)", x.made(0, 0, -1), NONE);
    due("made(0, 5, NONE)", x.made(0, 5, -1), NONE);
    due("made(0, 1, -2)", x.made(0, 1, -2), NONE);
    due("no SYLLABLE is learnt", by("sound b 1;word b;", "").made(0, 1, -1), NONE);
    due("nothing is learnt", by("sound a 1 peak;", "a").made(0, 1, -1), NONE);
  }

  private static void learning() {
    promise = "27 learn";
    SyllableMaker x = by(BASE + "word snata;", "sla tapn st");
    due("sl is not LEGAL yet", x.opening(S, L, -1, -1), 4);
    due("learn(0)", x.learn(0), 101);
    due("sl is LEARNT", x.opening(S, L, -1, -1), 3);
    due("learn(1)", x.learn(1), 102);
    due("at(102, 3)", x.at(102, 3), N);
    due("SPEECH stays", x.about(4), 3);
    due("about(3)", x.about(3), 3);
    due("about(5)", x.about(5), 2);
    due("learn(3)", x.learn(3), NONE);
    due("learn(-1)", x.learn(-1), NONE);
    due("learn(100)", x.learn(100), NONE);
    due("about(5)", x.about(5), 2);
    for (int i = 103; i < 120; i++) due("learn(2)", x.learn(2), i);
    due("a twenty-first", x.learn(2), NONE);
    due("about(3)", x.about(3), 20);
    due("about(5)", x.about(5), 12);
    due("what is learnt is not by SPEECH", say(x, "a"), 1);
    due("at(101, 0)", x.at(101, 0), S);
  }

  private static void forgetting() {
    promise = "28 forget";
    SyllableMaker x = by(BASE + "word snata;word asta;word pa;", "ta");
    due("forget(103)", x.forget(103), NONE);
    due("forget(0)", x.forget(0), NONE);
    due("forget(-1)", x.forget(-1), NONE);
    due("forget(99)", x.forget(99), NONE);
    due("forget(min)", x.forget(Integer.MIN_VALUE), NONE);
    due("about(5)", x.about(5), 0);
    due("forget(100)", x.forget(100), 2);
    due("sn is no more LEARNT", x.opening(S, N, -1, -1), 0);
    due("those behind it count one less", x.word(100, 0), 4);
    due("those behind it count one less", x.word(101, 0), 2);
    due("none such", x.word(102, 0), NONE);
    due("forget(101)", x.forget(101), 1);
    due("forget(100)", x.forget(100), 0);
    due("forget(100)", x.forget(100), NONE);
    due("about(5)", x.about(5), 3);
    due("learn(0)", x.learn(0), 100);
  }

  private static void costs() {
    promise = "29 cost";
    SyllableMaker x = by(BASE, "past asi");
    due("cost(0, 6)", x.cost(0, 6), 5);
    due("COST of asi", x.word(1, 3), 6);
    due("cost(0, 6) again", x.cost(0, 6), NONE);
    due("cost(1, 999)", x.cost(1, 999), 2);
    due("cost(2, 0)", x.cost(2, 0), 3);
    due("cost(3, 1)", x.cost(3, 1), 9);
    due("cost(4, 2)", x.cost(4, 2), 7);
    due("cost(5, 3)", x.cost(5, 3), 4);
    int[] want = {6, 999, 0, 1, 2, 3};
    for (int i = 0; i < 6; i++) due("about(" + (10 + i) + ")", x.about(10 + i), want[i]);
    due("about(5)", x.about(5), 6);
    due("cost(0, 1000)", x.cost(0, 1000), NONE);
    due("cost(0, -1)", x.cost(0, -1), NONE);
    due("cost(6, 0)", x.cost(6, 0), NONE);
    due("cost(-1, 0)", x.cost(-1, 0), NONE);
    due("about(5)", x.about(5), 6);
  }

  private static void undoing() {
    promise = "30 undo";
    SyllableMaker x = by(BASE + "word snata;word asta;word pa;", "tapn");
    due("undo()", x.undo(), NONE);
    x.forget(100);
    x.learn(0);
    x.cost(0, 9);
    x.forget(100);
    due("about(3)", x.about(3), 2);
    due("undo()", x.undo(), 3);
    due("asta is there again", x.at(100, 1), S);
    due("pa is behind it", x.at(101, 0), P);
    due("undo()", x.undo(), 2);
    due("about(10)", x.about(10), 5);
    due("undo()", x.undo(), 1);
    due("about(3)", x.about(3), 2);
    due("undo()", x.undo(), 0);
    due("snata is the first", x.at(100, 1), N);
    due("sn is LEARNT", x.opening(S, N, -1, -1), 3);
    due("asta", x.at(101, 0), A);
    due("undo()", x.undo(), NONE);
    for (int i = 0; i < 14; i++) x.cost(0, 20 + i);
    due("about(5)", x.about(5), 12);
    for (int i = 11; i >= 0; i--) due("undo()", x.undo(), i);
    due("the oldest went", x.about(10), 21);
    due("undo()", x.undo(), NONE);
    // a word that is forgotten stays kept, whatever the older acts were
    x.forget(101);
    for (int i = 0; i < 11; i++) x.cost(1, 30 + i);
    for (int i = 11; i >= 0; i--) due("undo()", x.undo(), i);
    due("asta", x.at(101, 1), S);
    x.cost(1, 50);
    x.forget(101);
    for (int i = 0; i < 11; i++) x.cost(1, 30 + i);
    for (int i = 11; i >= 0; i--) due("undo()", x.undo(), i);
    due("asta", x.at(101, 1), S);
    due("a new one behind an UNDO", x.cost(1, 51), 50);
    due("about(5)", x.about(5), 1);
    due("SPEECH keeps ACTS", say(x, "ta"), 1);
    due("undo()", x.undo(), 0);
    due("about(11)", x.about(11), 50);
  }

  private static void undoneWords() {
    promise = "30 undo, words";
    SyllableMaker x = by(BASE + "word snata;word asta;word pa;", "tapn");
    // two words are forgotten, by the oldest and the latest of the twelve ACTS that are kept
    x.cost(1, 60);
    x.forget(100);
    for (int i = 0; i < 10; i++) x.cost(1, 30 + i);
    x.forget(100);
    due("pa is left", x.at(100, 0), P);
    for (int i = 11; i >= 0; i--) due("undo()", x.undo(), i);
    due("snata is the first", x.at(100, 1), N);
    due("asta is the second", x.at(101, 1), S);
    due("pa is the third", x.at(102, 0), P);
    due("the oldest stays", x.about(11), 60);
    x.learn(0);
    due("an empty law", x.law(), 0);
    due("a law keeps no ACTS", x.undo(), NONE);
  }

  private static void abouts() {
    promise = "31 about";
    SyllableMaker x = by(BASE + "open pl;word snata;word sna;word stata;word prlta;word plnrpa;word ta;word psn;word plnta;", "past asi");
    x.cost(0, 8);
    x.feed(0, 0, 0, 0, 0);
    x.end(7);
    int[] want = {9, 2, 1, 8, 2, 1, 7, 4};
    for (int i = 0; i < want.length; i++) due("about(" + i + ")", x.about(i), want[i]);
    int[] cost = {8, 2, 3, 9, 7, 4};
    for (int i = 0; i < 6; i++) due("about(" + (10 + i) + ")", x.about(10 + i), cost[i]);
    due("about(8)", x.about(8), NONE);
    due("about(9)", x.about(9), NONE);
    due("about(16)", x.about(16), NONE);
    due("about(-1)", x.about(-1), NONE);
    due("about(min)", x.about(Integer.MIN_VALUE), NONE);
    due("about(max)", x.about(Integer.MAX_VALUE), NONE);
  }
}
