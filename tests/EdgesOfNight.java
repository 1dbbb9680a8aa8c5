/** The edges that the document names for the guards: promises 29 to 32. */
public final class EdgesOfNight extends Bench {
  // ---- still

  private static void stillBounds() {
    says(29, "Whether a MINUTE is STILL (what 0: 1, 0). BAD");
    KnockWall x = told("guard 0 1;guard 599 1;");
    dueBounds("still(#, 0)", minute -> x.still(minute, 0), 0, 1, 599, 1);
    due("still(1, 0)", x.still(1, 0), 0);
    due("still(598, 0)", x.still(598, 0), 0);
    dueBounds("still(0, #)", what -> x.still(0, what), 0, 1, 2, 0);
    dueBounds("still(#, 1)", minute -> x.still(minute, 1), 0, 1, 599, NONE);
    dueBounds("still(#, 2)", minute -> x.still(minute, 2), 0, 0, 599, 599);
    dueBad("still(600, #)", what -> x.still(600, what), 0, 1, 2);
  }

  private static void firstThatIsNot() {
    says(29, "the first MINUTE from it on that is not (1). NONE");
    KnockWall x = told("guard 10 60;guard 70 60;guard 540 60;");
    due("still(9, 1)", x.still(9, 1), 9);
    due("still(10, 1)", x.still(10, 1), 130);
    due("still(129, 1)", x.still(129, 1), 130);
    due("still(539, 1)", x.still(539, 1), 539);
    due("still(540, 1)", x.still(540, 1), NONE);
    due("still(599, 1)", x.still(599, 1), NONE);
  }

  private static void firstThatIs() {
    says(29, "that is (2). NONE");
    KnockWall x = told("guard 10 60;");
    due("still(0, 2)", x.still(0, 2), 10);
    due("still(10, 2)", x.still(10, 2), 10);
    due("still(69, 2)", x.still(69, 2), 69);
    due("still(70, 2)", x.still(70, 2), NONE);
    KnockWall none = new KnockWall();
    dueBounds("still(#, 2) without guards", minute -> none.still(minute, 2), 0, NONE, 599, NONE);
    dueBounds("still(#, 1) without guards", minute -> none.still(minute, 1), 0, 0, 599, 599);
    dueBounds("still(#, 0) without guards", minute -> none.still(minute, 0), 0, 0, 599, 0);
  }

  private static void dueStill(String text, int first, int last, int many) {
    KnockWall x = told(text);
    due("still(0, 2) of '" + text + "'", x.still(0, 2), first);
    due("still(last, 0) of '" + text + "'", x.still(last, 0), 1);
    if (last < 599) {
      due("still(last and 1, 0) of '" + text + "'", x.still(last + 1, 0), 0);
    }
    due("count(2) of '" + text + "'", x.count(2), many);
  }

  private static void guardsInTheNight() {
    says("NIGHT: MINUTES 0 to 599. STILL are those of guards");
    dueStill("guard 0 1;", 0, 0, 1);
    dueStill("guard 0 60;", 0, 59, 60);
    dueStill("guard 539 60;", 539, 598, 60);
    dueStill("guard 540 60;", 540, 599, 60);
    dueStill("guard 541 60;", 541, 599, 59);
    dueStill("guard 599 1;", 599, 599, 1);
    dueStill("guard 599 60;", 599, 599, 1);
    dueStill("guard 5 10;guard 5 10;", 5, 14, 10);
    dueStill("guard 5 10;guard 14 2;", 5, 15, 11);
    dueStill("guard 5 10;guard 15 2;", 5, 16, 12);
    dueStill("guard 7 1;guard 5 10;", 5, 14, 10);
    dueStill("guard 0 60;guard 60 60;guard 120 60;guard 180 60;guard 240 60;guard 300 60;", 0, 359, 360);
  }

  private static void countOfStill() {
    says(44, "2 STILL MINUTES");
    due("count(2) without guards", new KnockWall().count(2), 0);
    due("count(2) of one", told("guard 599 60;").count(2), 1);
    due("count(2) of one told twice", told("guard 7 1;guard 7 1;").count(2), 1);
  }

  // ---- begin

  private static void beginBounds() {
    says(30, "The first MINUTE from one on at which a ROW of n MINUTES can begin. BAD");
    KnockWall x = new KnockWall();
    dueBounds("begin(#, 1)", minute -> x.begin(minute, 1), 0, 0, 599, 599);
    dueBounds("begin(0, #)", n -> x.begin(0, n), 1, 0, 600, 0);
    dueBad("begin(600, #)", n -> x.begin(600, n), 0, 1, 600);
    dueBad("begin(0, #)", n -> x.begin(0, n), 0, -600);
  }

  private static void rowsInTheNight() {
    says("A ROW of n MINUTES (1 to 600) can begin where all are in the NIGHT");
    KnockWall x = new KnockWall();
    due("begin(0, 600)", x.begin(0, 600), 0);
    due("begin(1, 600)", x.begin(1, 600), NONE);
    due("begin(1, 599)", x.begin(1, 599), 1);
    due("begin(599, 1)", x.begin(599, 1), 599);
    due("begin(599, 2)", x.begin(599, 2), NONE);
    due("begin(598, 2)", x.begin(598, 2), 598);
    due("begin(300, 300)", x.begin(300, 300), 300);
    due("begin(300, 301)", x.begin(300, 301), NONE);
  }

  private static void rowsBetweenGuards() {
    says("A ROW can begin where none of them is STILL");
    KnockWall x = told("guard 10 1;guard 31 1;guard 560 40;");
    due("begin(0, 10)", x.begin(0, 10), 0);
    due("begin(0, 11)", x.begin(0, 11), 11);
    due("begin(1, 10)", x.begin(1, 10), 11);
    due("begin(1, 9)", x.begin(1, 9), 1);
    due("begin(11, 20)", x.begin(11, 20), 11);
    due("begin(12, 20)", x.begin(12, 20), 32);
    due("begin(0, 21)", x.begin(0, 21), 32);
    due("begin(0, 528)", x.begin(0, 528), 32);
    due("begin(0, 529)", x.begin(0, 529), NONE);
    due("begin(33, 528)", x.begin(33, 528), NONE);
    due("begin(10, 1)", x.begin(10, 1), 11);
    due("begin(559, 1)", x.begin(559, 1), 559);
    due("begin(560, 1)", x.begin(560, 1), NONE);
    due("begin(599, 1)", x.begin(599, 1), NONE);
  }

  // ---- nights

  private static void nightsBounds() {
    says(31, "How many ROWS of n MINUTES a NIGHT holds, none over another one. BAD");
    KnockWall x = new KnockWall();
    dueBounds("nights(#)", x::nights, 1, 600, 600, 1);
    due("nights(299)", x.nights(299), 2);
    due("nights(300)", x.nights(300), 2);
    due("nights(301)", x.nights(301), 1);
    due("nights(599)", x.nights(599), 1);
    KnockWall guarded = told("guard 0 1;");
    dueBounds("nights(#)", guarded::nights, 1, 599, 600, 0);
    due("nights(599)", guarded.nights(599), 1);
  }

  private static void nightsBetweenGuards() {
    says(31, "none over another one");
    KnockWall x = told("guard 10 1;guard 31 1;guard 540 60;");
    due("nights(1)", x.nights(1), 10 + 20 + 508);
    due("nights(10)", x.nights(10), 1 + 2 + 50);
    due("nights(11)", x.nights(11), 1 + 46);
    due("nights(20)", x.nights(20), 1 + 25);
    due("nights(21)", x.nights(21), 24);
    due("nights(254)", x.nights(254), 2);
    due("nights(255)", x.nights(255), 1);
    due("nights(508)", x.nights(508), 1);
    due("nights(509)", x.nights(509), 0);
    KnockWall most = told("guard 0 60;guard 60 60;guard 120 60;guard 180 60;guard 240 60;guard 300 60;");
    dueBounds("nights(#)", most::nights, 1, 240, 600, 0);
  }

  // ---- longest

  private static void longestBounds() {
    says(32, "The longest ROW that can begin anywhere (what 0), the first MINUTE at which it can (1). BAD");
    dueBounds("longest(#) without guards", new KnockWall()::longest, 0, 600, 1, 0);
    dueBounds("longest(#)", told("guard 0 1;")::longest, 0, 599, 1, 1);
    dueBounds("longest(#)", told("guard 599 1;")::longest, 0, 599, 1, 0);
    dueBounds("longest(#) of two alike", told("guard 299 2;")::longest, 0, 299, 1, 0);
    dueBounds("longest(#)", told("guard 298 2;")::longest, 0, 300, 1, 300);
  }

  /** Six guards of sixty MINUTES leave 240: that all are STILL, the document's NONE, can not be told. */
  private static void fewestThatAreNotStill() {
    says(32, "NONE: all are STILL (0: 0)");
    KnockWall x = told("guard 40 60;guard 140 60;guard 240 60;guard 340 60;guard 440 60;guard 540 60;");
    due("count(2)", x.count(2), 360);
    dueBounds("longest(#)", x::longest, 0, 40, 1, 0);
    KnockWall last = told("guard 0 60;guard 60 60;guard 120 60;guard 180 60;guard 240 60;guard 300 60;");
    dueBounds("longest(#)", last::longest, 0, 240, 1, 360);
  }

  public static void main(String[] args) {
    stillBounds();
    firstThatIsNot();
    firstThatIs();
    guardsInTheNight();
    countOfStill();
    beginBounds();
    rowsInTheNight();
    rowsBetweenGuards();
    nightsBounds();
    nightsBetweenGuards();
    longestBounds();
    fewestThatAreNotStill();
    close();
  }
}
