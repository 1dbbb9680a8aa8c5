/** The edges that the document names for sayings and the tongue: promises 11 to 15. */
public final class EdgesOfSayings extends Bench {
  private static final String BEST_OF_NO_TONGUE = "abdglcehmqfinrujosvxptwyz";

  /** takes(0), takes(1) and so on of a text. */
  private static void dueTakes(KnockWall x, String text, int... want) {
    say(x, text);
    for (int what = 0; what < want.length; what++) {
      due("takes(" + what + ") of '" + text + "'", x.takes(what), want[what]);
    }
    due("wrong() of '" + text + "'", x.wrong(), NONE);
  }

  private static void dueNoSaying(KnockWall x, String text, int place) {
    say(x, text);
    due("wrong() of '" + text + "'", x.wrong(), place);
    for (int what = 0; what < 7; what++) {
      due("takes(" + what + ") of '" + text + "'", x.takes(what), STATE);
    }
    dueBad("takes(#) of '" + text + "'", x::takes, -1, 7, LOW, HIGH);
  }

  // ---- a SAYING, or none

  private static void oneAtLeast() {
    says("A SAYING: NAMES of letters of THE TABLE, blanks; one at least");
    KnockWall x = new KnockWall();
    dueTakes(x, "a", 1, 1, 2, 12);
    dueTakes(x, " a", 1, 1, 2, 12);
    dueTakes(x, "a ", 1, 1, 2, 12);
    dueTakes(x, " ".repeat(319) + "a", 1, 1, 2, 12);
    dueTakes(x, "a" + " ".repeat(319), 1, 1, 2, 12);
  }

  private static void emptyOfLetters() {
    says(12, "the length, if it is empty of letters");
    KnockWall x = new KnockWall();
    dueNoSaying(x, "", 0);
    dueNoSaying(x, " ", 1);
    dueNoSaying(x, "        ", 8);
    dueNoSaying(x, " ".repeat(320), 320);
  }

  private static void lettersOfTheTable() {
    says("NAMES of letters of THE TABLE");
    for (int b = 0; b < 256; b++) {
      if (b == ' ') {
        continue;
      }
      KnockWall x = new KnockWall();
      boolean has = FIRST_TABLE.indexOf(b) >= 0;
      say(x, "" + (char) b);
      due("wrong() of byte " + b, x.wrong(), has ? NONE : 0);
      due("takes(0) of byte " + b, x.takes(0), has ? 1 : STATE);
      say(x, "a " + (char) b);
      due("wrong() of 'a ' and byte " + b, x.wrong(), has ? NONE : 2);
      due("takes(1) of 'a ' and byte " + b, x.takes(1), has ? 2 : STATE);
    }
    KnockWall x = told("table bcdefghijklmnopqrstuvwxyz;");
    dueNoSaying(x, "kza", 2);
    dueTakes(x, "kz", 2, 1, 7 + 10);
  }

  private static void firstPlace() {
    says(12, "The first place of THE TAPE by which it is no SAYING");
    KnockWall x = new KnockWall();
    dueNoSaying(x, "k", 0);
    dueNoSaying(x, " k", 1);
    dueNoSaying(x, "kk", 0);
    dueNoSaying(x, "a?k", 1);
    dueNoSaying(x, "a;", 1);
    dueNoSaying(x, "?   ", 0);
    dueNoSaying(x, "a".repeat(319) + "k", 319);
    dueNoSaying(x, " ".repeat(319) + "k", 319);
    dueNoSaying(x, "k" + "a".repeat(319), 0);
    x.end(0);
    x.feed(0x61616B6161616161L);
    due("wrong() of aakaaaaa", x.wrong(), 2);
    x.end(3);
    due("wrong() of aak", x.wrong(), 2);
    x.end(2);
    due("wrong() of aa, behind it another byte", x.wrong(), NONE);
    x.swap(0, 24);
    due("wrong() behind a swap", x.wrong(), NONE);
  }

  private static void takesBounds() {
    says(11, "The SAYING: 0 letters .. 6 how many NAMES are SHORT. BAD");
    KnockWall x = told("short a zz;");
    say(x, "zz b zz");
    dueBounds("takes(#)", x::takes, 0, 5, 6, 2);
  }

  private static void takesOfNone() {
    says(11, "BAD; STATE: it is none");
    KnockWall x = new KnockWall();
    dueBounds("takes(#) of nothing", x::takes, 0, STATE, 6, STATE);
  }

  // ---- how long it TAKES

  private static void gaps() {
    says("It TAKES: KNOCKS times a knock, a pause for each letter, a gap between letters of a NAME, two between NAMES");
    KnockWall x = told("time 1 20 99;");
    dueTakes(x, "a", 1, 1, 2, 2 + 20);
    dueTakes(x, "ab", 2, 1, 5, 5 + 40 + 99);
    dueTakes(x, "a b", 2, 2, 5, 5 + 40 + 198);
    dueTakes(x, "  a    b  ", 2, 2, 5, 5 + 40 + 198);
    dueTakes(x, "a b c", 3, 3, 9, 9 + 60 + 396);
    dueTakes(x, "ab c", 3, 2, 9, 9 + 60 + 99 + 198);
  }

  private static void leastAndMostTime() {
    says("It TAKES, by the least and the greatest times");
    KnockWall x = told("time 1 1 1;");
    dueTakes(x, "a", 1, 1, 2, 3, 2, 3, 0);
    dueTakes(x, "zz z", 3, 2, 30, 30 + 3 + 1 + 2, 30, 36, 0);
    x = told("time 99 99 99;");
    dueTakes(x, "a", 1, 1, 2, 297, 2, 297, 0);
    int long1 = 99 * (3200 + 320 + 319);
    dueTakes(x, "z".repeat(320), 320, 1, 3200, long1, 3200, long1, 0);
    int long2 = 99 * (1600 + 160 + 2 * 159);
    dueTakes(x, "z ".repeat(160), 160, 160, 1600, long2, 1600, long2, 0);
  }

  private static void knocksByPlace() {
    says("KNOCKS: all COUNTS of all letters, summed");
    KnockWall x = new KnockWall();
    for (int p = 0; p < 25; p++) {
      dueTakes(x, FIRST_TABLE.substring(p, p + 1), 1, 1, p / 5 + p % 5 + 2);
    }
    dueTakes(x, FIRST_TABLE, 25, 1, 150);
    x.swap(0, 24);
    dueTakes(x, "a", 1, 1, 10);
    dueTakes(x, "z", 1, 1, 2);
  }

  // ---- SHORTENED

  private static void fewerKnocks() {
    says("SHORTENED: each NAME for which there is a SHORT is that, if it has fewer KNOCKS");
    dueTakes(told("short e ab;"), "ab", 2, 1, 5, 39, 5, 39, 0);
    dueTakes(told("short d ab;"), "ab", 2, 1, 5, 39, 5, 39, 0);
    dueTakes(told("short c ab;"), "ab", 2, 1, 5, 39, 4, 18, 1);
    dueTakes(told("short ab ab;"), "ab", 2, 1, 5, 39, 5, 39, 0);
    dueTakes(told("short aaa zz;"), "zz", 2, 1, 20, 84, 6, 60, 1);
    KnockWall x = told("short d ab;");
    x.swap(1, 2);
    dueTakes(x, "ab", 2, 1, 6, 42, 5, 21, 1);
  }

  private static void firstOfThese() {
    says("SHORTENED: (the first of these)");
    dueTakes(told("short a zz;short b zz;"), "zz", 2, 1, 20, 84, 2, 12, 1);
    dueTakes(told("short b zz;short a zz;"), "zz", 2, 1, 20, 84, 3, 15, 1);
    dueTakes(told("short zzz zz;short a zz;"), "zz", 2, 1, 20, 84, 20, 84, 0);
    dueTakes(told("short zz zz;short a zz;"), "zz", 2, 1, 20, 84, 20, 84, 0);
  }

  private static void wholeNames() {
    says("SHORTENED: each NAME for which there is a SHORT");
    KnockWall x = told("short a zz;short a zzzzzzzz;");
    dueTakes(x, "z", 1, 1, 10, 36, 10, 36, 0);
    dueTakes(x, "zz", 2, 1, 20, 84, 2, 12, 1);
    dueTakes(x, "zzz", 3, 1, 30, 132, 30, 132, 0);
    dueTakes(x, "zzzzzzz", 7, 1, 70, 324, 70, 324, 0);
    dueTakes(x, "zzzzzzzz", 8, 1, 80, 372, 2, 12, 1);
    dueTakes(x, "zzzzzzzzz", 9, 1, 90, 420, 90, 420, 0);
    dueTakes(x, "zy yz", 4, 2, 38, 186, 38, 186, 0);
    dueTakes(x, "zz z z zz", 6, 4, 60, 312, 24, 168, 2);
  }

  private static void everyShort() {
    says("short: 6 at most; all are looked at");
    KnockWall x = told("short a zb;short a zc;short a zd;short a ze;short a zf;short b zg;");
    dueTakes(x, "zg", 2, 1, 14, 66, 3, 15, 1);
    dueTakes(x, "zb zc zd ze zf zg", 12, 6, 85, 255 + 72 + 72 + 120, 13, 39 + 36 + 120, 6);
    KnockWall none = new KnockWall();
    dueTakes(none, "zz", 2, 1, 20, 84, 20, 84, 0);
  }

  private static void mostNames() {
    says("SHORTENED: of a tape that is full");
    KnockWall x = told("short a zz;");
    String text = "zz " + "zz ".repeat(105) + "zz";
    due("the test's text", text.length(), 320);
    dueTakes(x, text, 214, 107, 2140, 11532, 214, 3828, 107);
  }

  // ---- the tongue

  private static void noTongue() {
    says(13, "MEAN, of no WORDS");
    KnockWall x = new KnockWall();
    dueBounds("mean(#)", x::mean, 0, 0, 1, 0);
  }

  private static void bestOfNoTongue() {
    says(14, "of several the first of the alphabet; of several the least PLACE");
    KnockWall x = new KnockWall();
    for (int p = 0; p < 25; p++) {
      due("best(" + p + ")", x.best(p), BEST_OF_NO_TONGUE.charAt(p));
    }
  }

  private static void adoptNoneOrAll() {
    says(15, "how many PLACES have another letter than before");
    KnockWall x = new KnockWall();
    due("adopt()", x.adopt(), 18);
    due("the table", tableOf(x), BEST_OF_NO_TONGUE);
    due("adopt() once more", x.adopt(), 0);
    x = told("table bdglcehmqfinrujosvxptwyza;");
    due("adopt() of a table that has none at its PLACE", x.adopt(), 25);
    due("the table", tableOf(x), BEST_OF_NO_TONGUE);
  }

  private static void meanBounds() {
    says(13, "MEAN by THE TABLE (what 0), by the BEST one (1). BAD");
    KnockWall x = told("word zzzzzzzz 99;".repeat(10));
    dueBounds("mean(#)", x::mean, 0, 79200, 1, 15840);
    x = told("word a 1;");
    dueBounds("mean(#)", x::mean, 0, 2, 1, 2);
    x = told("word e 1;");
    dueBounds("mean(#)", x::mean, 0, 6, 1, 2);
    x = told("word v 1;");
    dueBounds("mean(#)", x::mean, 0, 6, 1, 2);
    x = told("word abcdefgh 1;word ijlmnopq 1;word rstuvwxy 1;word z 2;");
    dueBounds("mean(#)", x::mean, 0, 160, 1, 152);
  }

  private static void bestBounds() {
    says(14, "The letter of the BEST TABLE at a PLACE. BAD");
    KnockWall x = told("word abcdefgh 1;word ijlmnopq 1;word rstuvwxy 1;word z 2;");
    dueBounds("best(#)", x::best, 0, 'z', 24, 'y');
    due("best(1)", x.best(1), 'a');
    due("best(5)", x.best(5), 'b');
    x = told("table zyxwvutsrqponmlkjihgfedcb;");
    dueBounds("best(#)", x::best, 0, 'b', 24, 'z');
  }

  private static void tongueTies() {
    says("letters by TONGUE, the greatest first, of several the first of the alphabet");
    KnockWall x = told("word y 2;word z 3;");
    due("best(0)", x.best(0), 'z');
    due("best(1)", x.best(1), 'y');
    due("best(5)", x.best(5), 'a');
    x = told("word y 3;word z 3;");
    due("best(0)", x.best(0), 'y');
    due("best(1)", x.best(1), 'z');
    x = told("word zz 3;word y 5;");
    due("best(0)", x.best(0), 'z');
    x = told("word z 99;word y 1;word y 98;word y 1;");
    due("best(0)", x.best(0), 'y');
  }

  private static void adopted() {
    says(15, "THE TABLE becomes the BEST one: how many PLACES have another letter than before");
    KnockWall x = told("word b 1;");
    x.adopt();
    x.swap(0, 1);
    due("adopt() behind a swap", x.adopt(), 2);
    due("table(0)", x.table(0), 'b');
    due("place(b)", x.place('b'), 0);
    due("place(k)", x.place('k'), NONE);
    due("word(0, 2)", x.word(0, 2), 2);
    due("mean(0)", x.mean(0), 2);
  }

  public static void main(String[] args) {
    oneAtLeast();
    emptyOfLetters();
    lettersOfTheTable();
    firstPlace();
    takesBounds();
    takesOfNone();
    gaps();
    leastAndMostTime();
    knocksByPlace();
    fewerKnocks();
    firstOfThese();
    wholeNames();
    everyShort();
    mostNames();
    noTongue();
    bestOfNoTongue();
    adoptNoneOrAll();
    meanBounds();
    bestBounds();
    tongueTies();
    adopted();
    close();
  }
}
