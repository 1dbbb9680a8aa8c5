/** What the tests share: texts that come on the tape, and answers that are due. */
abstract class Bench {
  static final int BAD = -1, STATE = -2, FULL = -3, NONE = -4;
  static final int LOW = Integer.MIN_VALUE, HIGH = Integer.MAX_VALUE;
  static final String FIRST_TABLE = "abcdefghijlmnopqrstuvwxyz";
  private static int wrong = 0;
  private static String sentence = "";

  /** A call with one number left open. */
  interface Asked {
    long of(int n);
  }

  // ---- what is due

  static void due(int promise, String call, long got, long want) {
    if (got != want) {
      wrong++;
      System.out.println("promise " + promise + ": " + call + " answered " + got + ", due is " + want);
    }
  }

  /** The sentence of a promise by which the answers below it are due. */
  static void says(int promise, String words) {
    sentence = "promise " + promise + ", '" + words + "'";
  }

  /** A sentence of the document's Terms. */
  static void says(String words) {
    sentence = "Terms, '" + words + "'";
  }

  static void due(String call, long got, long want) {
    if (got != want) {
      wrong++;
      System.out.println(sentence + ": " + call + " answered " + got + ", due is " + want);
    }
  }

  static void due(String what, String got, String want) {
    if (!got.equals(want)) {
      wrong++;
      System.out.println(sentence + ": " + what + " is\n  " + got + ", due is\n  " + want);
    }
  }

  /** A call's open number stands in its text as #. */
  static void dueBad(String call, Asked asked, int... numbers) {
    for (int n : numbers) {
      due(call.replace("#", "" + n), asked.of(n), BAD);
    }
  }

  /** The last numbers that are good, with their answers; the first that are not, and those far away. */
  static void dueBounds(String call, Asked asked, int least, long atLeast, int most, long atMost) {
    due(call.replace("#", "" + least), asked.of(least), atLeast);
    due(call.replace("#", "" + most), asked.of(most), atMost);
    dueBad(call, asked, least - 1, most + 1, LOW, HIGH);
  }

  static void dueFraction(String call, Asked asked, long top, long bottom) {
    due(call + ", numerator", asked.of(0), top);
    due(call + ", denominator", asked.of(1), bottom);
  }

  /** Ends the test: with 1, if an answer was not as due. */
  static void close() {
    System.out.println(wrong == 0 ? "all answers are as due" : wrong + " answers are not as due");
    if (wrong != 0) {
      System.exit(1);
    }
  }

  // ---- texts and sounds

  /** Puts a text behind the tape. */
  static void type(KnockWall x, String text) {
    int size = x.count(4);
    for (int i = 0; i < text.length(); i += 8) {
      long v = 0;
      for (int j = i; j < i + 8; j++) {
        v = v << 8 | (j < text.length() ? text.charAt(j) & 255 : 32);
      }
      if (x.feed(v) < 0) {
        throw new IllegalStateException("the test's text is too long: " + text);
      }
    }
    x.end(size + text.length());
  }

  /** The tape has this text alone. */
  static void say(KnockWall x, String text) {
    x.end(0);
    type(x, text);
  }

  static int code(KnockWall x, String text) {
    say(x, text);
    return x.code();
  }

  /** A new object that has taken a code. */
  static KnockWall told(String text) {
    KnockWall x = new KnockWall();
    if (code(x, text) < 0) {
      throw new IllegalStateException("the test's code has a fault: " + text);
    }
    return x;
  }

  static void hearAll(KnockWall x, int... counts) {
    x.hush();
    for (int n : counts) {
      x.hear(n);
    }
  }

  /** So many times the same COUNT, and nothing else, is heard. */
  static void hearOnly(KnockWall x, int many, int count) {
    x.hush();
    for (int i = 0; i < many; i++) {
      x.hear(count);
    }
  }

  static String tableOf(KnockWall x) {
    StringBuilder text = new StringBuilder();
    for (int p = 0; p < 25; p++) {
      text.append((char) x.table(p));
    }
    return text.toString();
  }

  static String heardOf(KnockWall x) {
    StringBuilder text = new StringBuilder();
    for (int i = 0; i < x.count(0); i++) {
      text.append(x.heard(i));
    }
    return text.toString();
  }
}
