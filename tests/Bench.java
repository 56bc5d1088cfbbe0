/** What the tests by hand share: a call's answer beside the one that is due, texts put on the TAPE. */
abstract class Bench {
  static final int NONE = SyllableMaker.NONE;
  static final int LEAST = Integer.MIN_VALUE;
  static final int MOST = Integer.MAX_VALUE;

  static int wrong = 0;
  /** What is held by the test that runs. */
  static String promise = "";

  static void due(String call, long got, long want) {
    if (got == want) return;
    wrong++;
    System.out.println(promise + ": " + call + " answered " + got + ", due is " + want);
  }

  /** Ends the run: with 1, if an answer was not as due. */
  static void tell(String held) {
    System.out.println(wrong == 0 ? held : wrong + " answers are not as due");
    if (wrong != 0) System.exit(1);
  }

  static int put(SyllableMaker x, String text) {
    int size = x.about(6) + text.length();
    for (int i = 0; i < text.length(); i += 20) {
      int[] n = new int[5];
      for (int j = 0; j < 20; j++) n[j / 4] = n[j / 4] << 8 | (i + j < text.length() ? text.charAt(i + j) : 0);
      if (x.feed(n[0], n[1], n[2], n[3], n[4]) == NONE) return NONE;
    }
    return x.end(size);
  }

  static int law(SyllableMaker x, String text) {
    due("the tape of a law", put(x, text), text.length());
    return x.law();
  }

  static int say(SyllableMaker x, String text) {
    due("the tape of a speech", put(x, text), text.length());
    return x.say();
  }

  /** A new object by that law and, if it is not empty, that speech. */
  static SyllableMaker by(String law, String speech) {
    SyllableMaker x = new SyllableMaker();
    law(x, law);
    due("fault(0) of " + law, x.fault(0), 0);
    if (!speech.isEmpty()) {
      say(x, speech);
      due("fault(0) of " + speech, x.fault(0), 0);
    }
    return x;
  }

  static void dueFault(String law, int fault, int place) {
    SyllableMaker x = new SyllableMaker();
    due("law " + law, law(x, law), NONE);
    due("fault(0) of " + law, x.fault(0), fault);
    due("fault(1) of " + law, x.fault(1), place);
    due("about(6)", x.about(6), 0);
  }

  static void dueRight(String law, int sounds) {
    SyllableMaker x = new SyllableMaker();
    due("law " + law, law(x, law), sounds);
    due("fault(0) of " + law, x.fault(0), 0);
    due("fault(1) of " + law, x.fault(1), NONE);
  }

  /** So many lines of SOUNDS, a and on; the first six are PEAKS. */
  static String sounds(int n) {
    StringBuilder law = new StringBuilder();
    for (int i = 0; i < n; i++) law.append("sound ").append((char) ('a' + i)).append(i < 6 ? " 9 peak;" : " 1;");
    return law.toString();
  }

  static void dueSyllable(SyllableMaker x, int word, int cut, int k, int... want) {
    for (int what = 0; what < want.length; what++) {
      due("syllable(" + word + ", " + cut + ", " + k + ", " + what + ")", x.syllable(word, cut, k, what), want[what]);
    }
  }

  static void dueMended(SyllableMaker x, int word, int... places) {
    due("mend(" + word + ", NONE)", x.mend(word, NONE), places.length);
    for (int i = 0; i < places.length; i++) due("mend(" + word + ", " + i + ")", x.mend(word, i), places[i]);
    due("mend(" + word + ", behind)", x.mend(word, places.length), NONE);
  }
}
