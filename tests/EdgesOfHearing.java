/** The edges that the document names for what is heard: promises 16 to 23. */
public final class EdgesOfHearing extends Bench {
  private static final String TEN_OF_SIX = "word zzzzzz 99;".repeat(10);

  // ---- hear, hush, heard

  private static void hearBounds() {
    says(16, "HEARD: COUNTS 0 to 6; BAD");
    KnockWall x = new KnockWall();
    dueBounds("hear(#)", x::hear, 0, 1, 6, 2);
    due("what was heard", heardOf(x), "06");
    for (int n = 1; n < 6; n++) {
      due("hear(" + n + ")", x.hear(n), n + 2);
    }
    due("what was heard", heardOf(x), "0612345");
  }

  private static void hearFull() {
    says(16, "HEARD: 24 at most; FULL");
    KnockWall x = new KnockWall();
    hearOnly(x, 23, 3);
    due("hear(4), the 24th", x.hear(4), 24);
    due("hear(5), the 25th", x.hear(5), FULL);
    due("count(0)", x.count(0), 24);
    due("heard(23)", x.heard(23), 4);
  }

  private static void hearBadAheadOfFull() {
    says("BAD, STATE, FULL, NONE: the first that fits");
    KnockWall x = new KnockWall();
    hearOnly(x, 24, 3);
    dueBounds("hear(#), the 25th", x::hear, 0, FULL, 6, FULL);
  }

  private static void hushes() {
    says(17, "All that was HEARD is gone: how many there were");
    KnockWall x = new KnockWall();
    due("hush() of none", x.hush(), 0);
    x.hear(4);
    due("hush() of one", x.hush(), 1);
    due("hush() once more", x.hush(), 0);
    hearOnly(x, 24, 6);
    due("hush() of all", x.hush(), 24);
    due("count(0)", x.count(0), 0);
    due("heard(0)", x.heard(0), BAD);
    due("hear(2) behind it", x.hear(2), 1);
    due("heard(0)", x.heard(0), 2);
  }

  private static void heardBounds() {
    says(18, "COUNT i that was HEARD. BAD");
    KnockWall x = new KnockWall();
    dueBad("heard(#) of none", x::heard, 0, -1, 1, LOW, HIGH);
    x.hear(6);
    dueBounds("heard(#) of one", x::heard, 0, 6, 0, 6);
    hearOnly(x, 23, 1);
    x.hear(0);
    dueBounds("heard(#) of all", x::heard, 0, 1, 23, 0);
    x.hush();
    x.hear(5);
    dueBounds("heard(#) behind hush()", x::heard, 0, 5, 0, 5);
  }

  // ---- chance

  private static void dueChance(KnockWall x, int row, int column, long want) {
    hearAll(x, row, column);
    due("chance(0, 0) of " + row + " " + column, x.chance(0, 0), want);
    due("chance(0, 1) of " + row + " " + column, x.chance(0, 1), want);
    due("fits() of " + row + " " + column, x.fits(), want > 0 ? 1 : 0);
    due("likeliest() of " + row + " " + column, x.likeliest(), want > 0 ? 0 : NONE);
    due("sure(0) of " + row + " " + column, x.sure(0), want > 0 ? 1 : NONE);
    due("sure(1) of " + row + " " + column, x.sure(1), want > 0 ? 1 : NONE);
  }

  private static void offByMore() {
    says("for each COUNT that of hearing it so (0, if it is off by more than 1), multiplied");
    int[] off = {0, 2, 15, 3, 0};
    KnockWall x = told("word n 1;slip 2 3;");
    for (int row = 1; row <= 5; row++) {
      for (int column = 1; column <= 5; column++) {
        dueChance(x, row, column, off[row - 1] * off[column - 1]);
      }
    }
    dueChance(x, 0, 3, 0);
    dueChance(x, 6, 3, 0);
    dueChance(x, 3, 0, 0);
    dueChance(x, 3, 6, 0);
  }

  private static void leastAndGreatestCount() {
    says("how often a COUNT is heard one less, one more: 1 as 0, 5 as 6");
    KnockWall a = told("word a 1;slip 2 3;");
    dueChance(a, 0, 0, 4);
    dueChance(a, 0, 1, 30);
    dueChance(a, 1, 0, 30);
    dueChance(a, 2, 2, 9);
    dueChance(a, 6, 1, 0);
    KnockWall z = told("word z 1;slip 2 3;");
    dueChance(z, 6, 6, 9);
    dueChance(z, 6, 5, 45);
    dueChance(z, 5, 6, 45);
    dueChance(z, 4, 4, 4);
    dueChance(z, 0, 5, 0);
  }

  private static void leastAndGreatestSlip() {
    says("slip: of 20 (0 to 9 each)");
    KnockWall x = told("word n 1;slip 0 0;");
    dueChance(x, 3, 3, 400);
    dueChance(x, 2, 3, 0);
    dueChance(x, 3, 4, 0);
    x = told("word n 1;slip 9 9;");
    dueChance(x, 3, 3, 4);
    dueChance(x, 2, 4, 81);
    x = told("word n 1;slip 0 9;");
    dueChance(x, 3, 3, 121);
    dueChance(x, 4, 4, 81);
    dueChance(x, 2, 4, 0);
    x = told("word n 1;slip 9 0;");
    dueChance(x, 2, 2, 81);
    dueChance(x, 4, 2, 0);
  }

  private static void leastAndGreatestWeight() {
    says("multiplied, times WEIGHT");
    dueChance(told("word n 1;slip 0 0;"), 3, 3, 400);
    dueChance(told("word n 99;slip 0 0;"), 3, 3, 39600);
  }

  private static void halfAsMany() {
    says("only one that has half as many letters as COUNTS are HEARD");
    KnockWall x = told("word a 1;word aa 1;word aaa 1;word aaaa 1;word aaaaa 1;word aaaaaa 1;word aaaaaaa 1;word aaaaaaaa 1;");
    for (int counts = 2; counts <= 12; counts += 2) {
      hearOnly(x, counts, 1);
      due("fits() of " + counts, x.fits(), 1 << (counts / 2 - 1));
      due("likeliest() of " + counts, x.likeliest(), counts / 2 - 1);
      for (int w = 0; w < 8; w++) {
        long want = w == counts / 2 - 1 ? (long) Math.pow(18, counts) : 0;
        due("chance(" + w + ", 0) of " + counts, x.chance(w, 0), want);
      }
    }
  }

  /** Objects that have heard 0 to 24 times a COUNT that gives no WORD a CHANCE. */
  private static KnockWall[] allCounts() {
    KnockWall[] all = new KnockWall[25];
    for (int counts = 0; counts <= 24; counts++) {
      all[counts] = told("word a 1;word bbbbbb 2;");
      hearOnly(all[counts], counts, 6);
    }
    return all;
  }

  private static boolean isOddNoneOrMore(int counts) {
    return counts == 0 || counts % 2 == 1 || counts > 12;
  }

  private static void chanceOddNoneOrMore() {
    says(19, "STATE: the COUNTS are odd, none, or more than 12");
    KnockWall[] all = allCounts();
    for (int counts = 0; counts <= 24; counts++) {
      long want = isOddNoneOrMore(counts) ? STATE : 0;
      due("chance(0, 0) of " + counts, all[counts].chance(0, 0), want);
      due("chance(1, 1) of " + counts, all[counts].chance(1, 1), want);
    }
  }

  private static void likeliestOddNoneOrMore() {
    says(20, "STATE likewise; NONE: no CHANCE at all");
    KnockWall[] all = allCounts();
    for (int counts = 0; counts <= 24; counts++) {
      due("likeliest() of " + counts, all[counts].likeliest(), isOddNoneOrMore(counts) ? STATE : NONE);
    }
  }

  private static void sureOddNoneOrMore() {
    says(21, "BAD; STATE, NONE likewise");
    KnockWall[] all = allCounts();
    for (int counts = 0; counts <= 24; counts++) {
      long want = isOddNoneOrMore(counts) ? STATE : NONE;
      dueBounds("sure(#) of " + counts, all[counts]::sure, 0, want, 1, want);
    }
  }

  private static void fitsOddNoneOrMore() {
    says(22, "STATE likewise");
    KnockWall[] all = allCounts();
    for (int counts = 0; counts <= 24; counts++) {
      due("fits() of " + counts, all[counts].fits(), isOddNoneOrMore(counts) ? STATE : 0);
    }
  }

  private static void chanceBounds() {
    says(19, "BAD; STATE");
    KnockWall x = told("word n 1;word n 2;slip 0 0;");
    dueBad("chance(#, 0) of none", w -> x.chance(w, 0), -1, 2, LOW, HIGH);
    dueBad("chance(#, 1) of none", w -> x.chance(w, 1), -1, 2, LOW, HIGH);
    dueBad("chance(0, #) of none", what -> x.chance(0, what), -1, 2, LOW, HIGH);
    hearAll(x, 3, 3);
    dueBounds("chance(#, 0)", w -> x.chance(w, 0), 0, 400, 1, 800);
    dueBounds("chance(#, 1)", w -> x.chance(w, 1), 0, 1200, 1, 1200);
    dueBounds("chance(1, #)", what -> x.chance(1, what), 0, 800, 1, 1200);
    KnockWall none = new KnockWall();
    hearAll(none, 3, 3);
    dueBad("chance(#, 1) without WORDS", w -> none.chance(w, 1), -1, 0, 1);
    due("likeliest() without WORDS", none.likeliest(), NONE);
    due("sure(0) without WORDS", none.sure(0), NONE);
    due("fits() without WORDS", none.fits(), 0);
  }

  private static void greatestChance() {
    says(19, "CHANCE of a WORD, of 20 for each COUNT, with its WEIGHT; CHANCES of all WORDS, summed");
    KnockWall x = told(TEN_OF_SIX + "slip 0 0;");
    hearOnly(x, 12, 5);
    dueBounds("chance(#, 0)", w -> x.chance(w, 0), 0, 405504000000000000L, 9, 405504000000000000L);
    due("chance(0, 1)", x.chance(0, 1), 4055040000000000000L);
    due("fits()", x.fits(), 1023);
    due("likeliest()", x.likeliest(), 0);
    dueFraction("sure", x::sure, 1, 10);
  }

  // ---- likeliest, sure, fits

  private static void leastOfSeveral() {
    says("LIKELIEST: that with the greatest CHANCE, of several the least");
    KnockWall x = told("word b 1;word n 5;word n 6;word n 6;");
    hearAll(x, 3, 3);
    due("likeliest()", x.likeliest(), 2);
    due("fits()", x.fits(), 14);
    dueFraction("sure", x::sure, 6, 17);
    x = told("word h 1;word n 1;slip 2 2;");
    hearAll(x, 2, 3);
    due("likeliest()", x.likeliest(), 0);
    hearAll(x, 3, 3);
    due("likeliest()", x.likeliest(), 1);
    x = told("word h 9;word n 9;slip 9 2;");
    hearAll(x, 2, 3);
    due("likeliest() of two alike", x.likeliest(), 0);
    dueFraction("sure", x::sure, 1, 2);
  }

  private static void sureBounds() {
    says(21, "SURE: its CHANCE by all CHANCES; Fractions are in lowest terms");
    KnockWall x = told("word n 98;word n 49;");
    hearAll(x, 3, 3);
    dueBounds("sure(#)", x::sure, 0, 2, 1, 3);
    code(x, "word n 99;word n 1;");
    hearAll(x, 3, 3);
    dueBounds("sure(#)", x::sure, 0, 99, 1, 100);
    code(x, "word n 1;");
    hearAll(x, 4, 4);
    dueBounds("sure(#)", x::sure, 0, 1, 1, 1);
  }

  private static void fitsAboveNothing() {
    says(22, "WORDS that FIT with a CHANCE above 0 (bits)");
    KnockWall x = told("word a 1;word g 1;word n 1;word z 1;slip 1 0;");
    hearAll(x, 0, 0);
    due("fits() of 0 0", x.fits(), 1);
    hearAll(x, 1, 1);
    due("fits() of 1 1", x.fits(), 3);
    hearAll(x, 2, 2);
    due("fits() of 2 2", x.fits(), 6);
    hearAll(x, 5, 5);
    due("fits() of 5 5", x.fits(), 8);
    hearAll(x, 6, 6);
    due("fits() of 6 6", x.fits(), 0);
  }

  // ---- right

  private static void rightLetters() {
    says(23, "BAD; STATE: its letters times n are more than 3");
    KnockWall x = told("word a 1;word bc 1;word def 1;word ghij 1;word lmnopqrs 1;");
    int[] letters = {1, 2, 3, 4, 8};
    for (int w = 0; w < 5; w++) {
      for (int n = 1; n <= 3; n++) {
        int word = w;
        int times = n;
        long want = letters[w] * n > 3 ? STATE : 1;
        dueFraction("right(" + w + ", " + n + ")", what -> x.right(word, times, what), want, want);
      }
    }
  }

  private static void rightBounds() {
    says(23, "READ RIGHT: 0, 1. BAD");
    KnockWall x = told("word a 1;word lmnopqrs 1;word b 1;");
    dueBounds("right(#, 1, 1)", w -> x.right(w, 1, 1), 0, 20, 2, 20);
    dueBounds("right(0, #, 1)", n -> x.right(0, n, 1), 1, 20, 3, 1600);
    dueBounds("right(0, 1, #)", what -> x.right(0, 1, what), 0, 19, 1, 20);
    KnockWall none = new KnockWall();
    dueBad("right(#, 1, 0) without WORDS", w -> none.right(w, 1, 0), -1, 0, 1);
  }

  private static void rightBadAheadOfState() {
    says("BAD, STATE, FULL, NONE: the first that fits");
    KnockWall x = told("word a 1;word lmnopqrs 1;");
    due("right(1, 1, 0)", x.right(1, 1, 0), STATE);
    dueBad("right(1, #, 0)", n -> x.right(1, n, 0), 0, 4, LOW, HIGH);
    dueBad("right(1, 1, #)", what -> x.right(1, 1, what), -1, 2, LOW, HIGH);
  }

  private static void dueRight(String text, int w, int n, long top, long bottom) {
    KnockWall x = told(text);
    dueFraction("right(" + w + ", " + n + ") of '" + text + "'", what -> x.right(w, n, what), top, bottom);
  }

  private static void rightOrNever() {
    says("Fractions: 0 is 0 by 1");
    dueRight("word n 1;word n 1;", 0, 1, 1, 1);
    dueRight("word n 1;word n 1;", 1, 1, 0, 1);
    dueRight("word n 1;word n 1;", 1, 3, 0, 1);
    dueRight("word a 1;word b 1;slip 0 0;", 1, 1, 1, 1);
    dueRight("word abc 1;word abc 99;", 0, 1, 0, 1);
  }

  private static void rightSeveral() {
    says("READ RIGHT: a WORD sent n times (1 to 3; its letters times n 3 at most)");
    String four = "word a 1;word b 1;word f 1;word g 1;";
    dueRight(four, 0, 1, 361, 400);
    dueRight(four, 3, 3, 2524921, 2560000);
    String loud = "word a 1;word b 99;slip 9 9;";
    dueRight(loud, 0, 3, 6669, 8000);
    dueRight(loud, 1, 3, 1, 1);
    dueRight("word abc 1;word abd 1;word abb 1;", 0, 1, 9, 10);
    dueRight("word zzz 2;word zzy 1;word zyz 1;slip 2 3;", 0, 1, 81, 100);
    dueRight("word a 1;word b 1;slip 0 5;", 0, 1, 3, 4);
    dueRight("word a 1;word b 1;slip 0 5;", 1, 1, 1, 1);
    dueRight("word b 1;word a 1;slip 5 0;", 0, 1, 3, 4);
    dueRight("word b 1;word a 1;slip 5 0;", 1, 1, 1, 1);
  }

  private static void rightOffByMore() {
    says("0, if it is off by more than 1");
    dueRight("word a 1;word c 1;", 0, 1, 1, 1);
    dueRight("word a 1;word c 1;", 1, 1, 19, 20);
    dueRight("word a 1;word d 1;", 1, 1, 1, 1);
    dueRight("word y 1;word z 1;", 0, 1, 19, 20);
    dueRight("word y 1;word z 1;", 1, 1, 19, 20);
  }

  private static void rightWhateverWasHeard() {
    says(23, "READ RIGHT does not ask what was HEARD");
    KnockWall x = told("word a 1;word b 1;");
    for (int counts = 0; counts <= 24; counts += 3) {
      hearOnly(x, counts, 6);
      dueFraction("right(0, 1) of " + counts, what -> x.right(0, 1, what), 19, 20);
    }
  }

  public static void main(String[] args) {
    hearBounds();
    hearFull();
    hearBadAheadOfFull();
    hushes();
    heardBounds();
    offByMore();
    leastAndGreatestCount();
    leastAndGreatestSlip();
    leastAndGreatestWeight();
    halfAsMany();
    chanceOddNoneOrMore();
    likeliestOddNoneOrMore();
    sureOddNoneOrMore();
    fitsOddNoneOrMore();
    chanceBounds();
    greatestChance();
    leastOfSeveral();
    sureBounds();
    fitsAboveNothing();
    rightLetters();
    rightBounds();
    rightBadAheadOfState();
    rightOrNever();
    rightSeveral();
    rightOffByMore();
    rightWhateverWasHeard();
    close();
  }
}
