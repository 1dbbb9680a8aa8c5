/** The edges that the document names for images, sheets and counts: promises 38 to 44. */
public final class EdgesOfSheets extends Bench {
  private static final int NULL = 1, INDEX = 2, CAST = 3;

  // ---- keep, back

  private static void keepBounds() {
    says(38, "IMAGE k (0, 1): whether there was one (1, 0). BAD");
    KnockWall x = new KnockWall();
    dueBounds("keep(#)", x::keep, 0, 0, 1, 0);
    due("count(3)", x.count(3), 2);
    dueBounds("keep(#) once more", x::keep, 0, 1, 1, 1);
    due("count(3)", x.count(3), 2);
  }

  private static void backBounds() {
    says(39, "how many COUNTS are HEARD. BAD; STATE: there is none");
    KnockWall x = new KnockWall();
    dueBounds("back(#) of none", x::back, 0, STATE, 1, STATE);
    x.keep(1);
    dueBounds("back(#) of IMAGE 1 alone", x::back, 0, STATE, 1, 0);
    hearOnly(x, 24, 3);
    x.keep(0);
    dueBounds("back(#) of two", x::back, 0, 24, 1, 0);
    due("count(0)", x.count(0), 0);
    due("back(0)", x.back(0), 24);
    due("heard(23)", x.heard(23), 3);
    x.hear(1);
    due("count(0)", x.count(0), 24);
  }

  private static void imageOfNothing() {
    says(39, "All is as IMAGE k");
    KnockWall x = told("word ab 1;");
    x.keep(0);
    hearOnly(x, 24, 6);
    x.said(0, 0, 10);
    x.swap(0, 24);
    due("back(0)", x.back(0), 0);
    due("heard(0)", x.heard(0), BAD);
    due("knows(0)", x.knows(0), 0);
    due("the table", tableOf(x), FIRST_TABLE);
    due("place(a)", x.place('a'), 0);
  }

  private static void imageIsACopy() {
    says(38, "IMAGE k is THE TABLE, what was HEARD and SAID");
    KnockWall x = told("word ab 1;");
    hearAll(x, 1, 2);
    x.said(0, 4, 4);
    x.keep(1);
    x.back(1);
    x.hear(5);
    x.said(0, 0, 10);
    x.adopt();
    x.swap(0, 24);
    hearOnly(x, 24, 6);
    due("back(1) behind changes", x.back(1), 2);
    due("what was heard", heardOf(x), "12");
    due("knows(0)", x.knows(0), 16);
    due("the table", tableOf(x), FIRST_TABLE);
    x.hush();
    due("keep(1) anew", x.keep(1), 1);
    due("back(1)", x.back(1), 0);
  }

  private static void imageHasNoMore() {
    says(39, "All is as IMAGE k: but THE TAPE, SHEETS, what was told");
    KnockWall x = told("word ab 1;");
    x.keep(0);
    x.sheet(0, 0, 5);
    x.read(0, 0, 5, 1);
    type(x, "ab?");
    x.back(0);
    due("count(4)", x.count(4), 3);
    due("count(5)", x.count(5), 5);
    due("torn()", x.torn(), INDEX);
    due("count(3)", x.count(3), 1);
  }

  // ---- sheet, lay

  private static void sheetBounds() {
    says(40, "A SHEET is a new row of CELLS 0: 1. BAD: also n above 40; -14 (SIZE): n below 0");
    KnockWall x = new KnockWall();
    dueBounds("sheet(#, 0, 1)", k -> x.sheet(k, 0, 1), 0, 1, 3, 1);
    dueBounds("sheet(0, #, 1)", lane -> x.sheet(0, lane, 1), 0, 1, 2, 1);
    due("sheet(0, 0, 0)", x.sheet(0, 0, 0), 1);
    due("count(5)", x.count(5), 0);
    due("sheet(0, 0, 40)", x.sheet(0, 0, 40), 1);
    due("count(5)", x.count(5), 40);
    dueBad("sheet(0, 0, #)", n -> x.sheet(0, 0, n), 41, HIGH);
    due("sheet(0, 0, -1)", x.sheet(0, 0, -1), -14);
    due("sheet(0, 0, LOW)", x.sheet(0, 0, LOW), -14);
    due("count(5)", x.count(5), 40);
  }

  private static void sheetBadAheadOfSize() {
    says("BAD, the first that fits");
    KnockWall x = new KnockWall();
    due("sheet(0, 0, -1)", x.sheet(0, 0, -1), -14);
    dueBad("sheet(#, 0, -1)", k -> x.sheet(k, 0, -1), -1, 4);
    dueBad("sheet(0, #, -1)", lane -> x.sheet(0, lane, -1), -1, 3);
  }

  private static void newRow() {
    says(40, "A SHEET is a new row of CELLS 0");
    KnockWall x = new KnockWall();
    for (int lane = 0; lane < 3; lane++) {
      x.sheet(3, lane, 24);
      for (int i = 0; i < 24; i++) {
        x.lay(3, i, 6);
      }
      x.sheet(3, lane, 24);
      due("read(3, " + lane + ", 0, 24)", x.read(3, lane, 0, 24), 24);
      due("what was heard", heardOf(x), "0".repeat(24));
      x.hush();
    }
    x.sheet(3, 0, 40);
    x.lay(3, 39, 5);
    x.sheet(3, 0, 1);
    due("lay(3, 1, 0) of a shorter row", x.lay(3, 1, 0), -12);
    x.sheet(3, 0, 40);
    due("read(3, 0, 39, 1)", x.read(3, 0, 39, 1), 1);
    due("heard(0)", x.heard(0), 0);
  }

  private static void sheetsApart() {
    says("SHEETS 0 to 3");
    KnockWall x = new KnockWall();
    for (int k = 0; k < 4; k++) {
      x.sheet(k, 2 - k % 3, k + 1);
      x.lay(k, k, k + 1);
    }
    for (int k = 0; k < 4; k++) {
      due("read(" + k + ", its lane, 0, 24)", x.read(k, 2 - k % 3, 0, 24), k + 1);
    }
    due("what was heard", heardOf(x), "1" + "02" + "003" + "0004");
  }

  private static void layBounds() {
    says(41, "CELL i of a SHEET becomes v: 1. BAD: k; -10 less the FAULT: NULL, INDEX");
    KnockWall x = new KnockWall();
    x.sheet(0, 2, 40);
    x.sheet(3, 2, 1);
    dueBounds("lay(#, 0, 1)", k -> x.lay(k, 0, 1), 0, 1, 3, 1);
    due("lay(0, 39, 1)", x.lay(0, 39, 1), 1);
    due("lay(3, 0, 1)", x.lay(3, 0, 1), 1);
    for (int i : new int[] {-1, 40, LOW, HIGH}) {
      due("lay(0, " + i + ", 1)", x.lay(0, i, 1), -12);
      due("lay(1, " + i + ", 1) of nothing", x.lay(1, i, 1), -11);
      due("lay(4, " + i + ", 1)", x.lay(4, i, 1), BAD);
    }
    due("lay(3, 1, 1)", x.lay(3, 1, 1), -12);
    due("lay(1, 0, 1) of nothing", x.lay(1, 0, 1), -11);
    x.sheet(2, 0, 0);
    due("lay(2, 0, 1) of no CELLS", x.lay(2, 0, 1), -12);
    due("lay(2, -1, 1) of no CELLS", x.lay(2, -1, 1), -12);
  }

  /** What a value laid on a SHEET is as a COUNT; none below 0 or above 6. */
  private static void dueLaid(int lane, int v, int want) {
    KnockWall x = new KnockWall();
    x.sheet(0, lane, 1);
    due("lay(0, 0, " + v + ") of lane " + lane, x.lay(0, 0, v), 1);
    boolean count = want >= 0 && want <= 6;
    due("read of " + v + " of lane " + lane, x.read(0, lane, 0, 1), count ? 1 : -20);
    due("heard(0) of " + v + " of lane " + lane, x.heard(0), count ? want : BAD);
  }

  private static void lowestBits() {
    says(41, "becomes v (its lowest bits); BYTES (lane 0), SHORTS (1), INTS (2), all with a sign");
    int[] values = {
      0, 6, 7, -1, 127, 128, 255, 256, 262, 263, -250, -256, -128, 32767, 32768, 65535, 65536, 65542, 65543,
      -65536, -65530, 1 << 24, (1 << 24) + 3, LOW, LOW + 5, HIGH, HIGH - 6
    };
    for (int v : values) {
      dueLaid(0, v, (byte) v);
      dueLaid(1, v, (short) v);
      dueLaid(2, v, v);
    }
  }

  // ---- read

  private static KnockWall withSheet(int lane, int... cells) {
    KnockWall x = new KnockWall();
    x.sheet(0, lane, cells.length);
    for (int i = 0; i < cells.length; i++) {
      x.lay(0, i, cells[i]);
    }
    return x;
  }

  private static void dueRead(KnockWall x, int lane, int f, int n, int want, int torn, String heard) {
    String call = "read(0, " + lane + ", " + f + ", " + n + ")";
    due(call, x.read(0, lane, f, n), want);
    due("torn() behind " + call, x.torn(), torn);
    due("what was heard behind " + call, heardOf(x), heard);
  }

  private static void readBounds() {
    says(42, "n (0 to 24) COUNTS are read of a SHEET taken as of a lane. BAD: k, lane, n");
    KnockWall x = new KnockWall();
    for (int k = 0; k < 4; k++) {
      x.sheet(k, k % 3, 40);
    }
    dueBounds("read(#, 0, 0, 2)", k -> x.read(k, 0, 0, 2), 0, 2, 3, 2);
    dueBounds("read(2, #, 0, 2)", lane -> x.read(2, lane, 0, 2), 0, 0, 2, 2);
    x.hush();
    dueBounds("read(0, 0, 0, #)", n -> x.read(0, 0, 0, n), 0, 0, 24, 24);
    dueBad("read(4, 0, 0, #)", n -> x.read(4, 0, 0, n), 0, 1);
    dueBad("read(0, 3, 0, #)", n -> x.read(0, 3, 0, n), 0, 1);
    due("count(0)", x.count(0), 24);
  }

  private static void readNothing() {
    says(42, "of n 0: 0, no FAULT, whatever the SHEET is");
    KnockWall x = new KnockWall();
    x.sheet(1, 0, 3);
    for (int lane = 0; lane < 3; lane++) {
      for (int f : new int[] {0, -1, 3, 40, LOW, HIGH}) {
        x.read(0, 0, 0, 1);
        due("torn() NULL", x.torn(), NULL);
        due("read(0, " + lane + ", " + f + ", 0) of nothing", x.read(0, lane, f, 0), 0);
        due("torn()", x.torn(), 0);
        x.read(1, 0, 3, 1);
        due("torn() INDEX", x.torn(), INDEX);
        due("read(1, " + lane + ", " + f + ", 0)", x.read(1, lane, f, 0), 0);
        due("torn()", x.torn(), 0);
      }
    }
    hearOnly(x, 24, 1);
    due("read(1, 0, 0, 0) without room", x.read(1, 0, 0, 0), 0);
    due("count(0)", x.count(0), 24);
  }

  private static void readNull() {
    says("1 NULL (nothing)");
    for (int lane = 0; lane < 3; lane++) {
      for (int f : new int[] {0, -1, LOW, HIGH}) {
        KnockWall x = new KnockWall();
        x.hear(4);
        dueRead(x, lane, f, 1, 0, NULL, "4");
        dueRead(x, lane, f, 24, 0, NULL, "4");
      }
    }
  }

  private static void readCast() {
    says("3 CAST (another lane)");
    for (int lane = 0; lane < 3; lane++) {
      for (int as = 0; as < 3; as++) {
        KnockWall x = withSheet(lane, 1, 2, 3);
        dueRead(x, as, 0, 3, as == lane ? 3 : 0, as == lane ? 0 : CAST, as == lane ? "123" : "");
        x.hush();
        dueRead(x, as, 3, 1, 0, as == lane ? INDEX : CAST, "");
        dueRead(x, as, -1, 1, 0, as == lane ? INDEX : CAST, "");
        x.lay(0, 0, 7);
        due("read of no COUNT as of lane " + as, x.read(0, as, 0, 1), as == lane ? -20 : 0);
      }
    }
    KnockWall empty = withSheet(1);
    dueRead(empty, 0, 0, 1, 0, CAST, "");
    dueRead(empty, 1, 0, 1, 0, INDEX, "");
  }

  private static void readIndex() {
    says("2 INDEX; What the machine refuses: those ahead come");
    KnockWall x = withSheet(2, 1, 2, 3);
    dueRead(x, 2, 0, 3, 3, 0, "123");
    dueRead(x, 2, 0, 4, 3, INDEX, "123123");
    dueRead(x, 2, 2, 1, 1, 0, "1231233");
    dueRead(x, 2, 2, 2, 1, INDEX, "12312333");
    dueRead(x, 2, 3, 1, 0, INDEX, "12312333");
    dueRead(x, 2, 2, 24, 1, INDEX, "123123333");
    for (int f : new int[] {-1, -2, -24, 40, LOW, LOW + 5, HIGH, HIGH - 1, HIGH - 5}) {
      dueRead(x, 2, f, 24, 0, INDEX, "123123333");
    }
    KnockWall most = withSheet(0, new int[40]);
    dueRead(most, 0, 39, 1, 1, 0, "0");
    dueRead(most, 0, 39, 2, 1, INDEX, "00");
    dueRead(most, 0, 40, 1, 0, INDEX, "00");
    dueRead(most, 0, 20, 21, 20, INDEX, "0".repeat(22));
  }

  private static void readNoCount() {
    says(42, "-20 less i (0 on): CELL f + i is no COUNT");
    for (int v : new int[] {-1, 7, LOW, HIGH}) {
      KnockWall x = withSheet(2, 0, 6, v);
      x.hear(5);
      x.read(0, 2, 3, 1);
      dueRead(x, 2, 2, 1, -20, INDEX, "5");
      dueRead(x, 2, 1, 2, -21, INDEX, "5");
      dueRead(x, 2, 0, 24, -22, INDEX, "5");
      dueRead(x, 2, 0, 2, 2, 0, "506");
    }
    KnockWall last = withSheet(0, new int[24]);
    last.lay(0, 23, 7);
    dueRead(last, 0, 0, 24, -43, 0, "");
    dueRead(last, 0, 0, 23, 23, 0, "0".repeat(23));
  }

  private static void readFull() {
    says(42, "FULL: there is no room for it: then none came");
    for (int heard = 0; heard <= 24; heard++) {
      KnockWall x = withSheet(0, new int[40]);
      String ones = "1".repeat(heard);
      hearOnly(x, heard, 1);
      int room = 24 - heard;
      if (room < 24) {
        dueRead(x, 0, 0, room + 1, FULL, 0, ones);
      }
      due("read of as many as there is room", x.read(0, 0, 0, room), room);
      due("count(0)", x.count(0), 24);
    }
  }

  private static void firstMet() {
    says(42, "the first met");
    KnockWall x = withSheet(0, 1, 2, 7, 4);
    hearOnly(x, 23, 5);
    String before = "5".repeat(23);
    dueRead(x, 0, 2, 2, -20, 0, before);
    dueRead(x, 0, 1, 2, -21, 0, before);
    dueRead(x, 0, 0, 3, FULL, 0, before);
    dueRead(x, 0, 3, 2, 1, INDEX, before + "4");
    dueRead(x, 0, 4, 2, 0, INDEX, before + "4");
    dueRead(x, 1, 0, 2, 0, CAST, before + "4");
    dueRead(x, 0, 2, 1, -20, CAST, before + "4");
    dueRead(x, 0, 3, 2, FULL, CAST, before + "4");
    due("read(1, 0, 0, 1) of nothing, without room", x.read(1, 0, 0, 1), 0);
    due("torn()", x.torn(), NULL);
  }

  // ---- torn

  private static void tornAtFirst() {
    says(43, "The FAULT of the latest read() that answered 0 or more; 0");
    KnockWall x = new KnockWall();
    due("torn() at first", x.torn(), 0);
    x.sheet(0, 0, -1);
    x.lay(0, 0, 0);
    due("torn() behind FAULTS of sheet and lay", x.torn(), 0);
    x.read(0, 0, 0, 1);
    due("torn() NULL", x.torn(), NULL);
    x.sheet(0, 0, 1);
    due("torn() behind sheet", x.torn(), NULL);
    x.read(0, 1, 0, 1);
    due("torn() CAST", x.torn(), CAST);
    x.read(0, 0, 1, 1);
    due("torn() INDEX", x.torn(), INDEX);
    x.read(0, 0, 0, 1);
    due("torn() of a whole one", x.torn(), 0);
  }

  private static void tornIsLeft() {
    says(43, "one that is refused leaves it");
    for (int torn : new int[] {0, INDEX}) {
      KnockWall x = withSheet(0, 1, 7);
      x.read(0, 0, torn == 0 ? 0 : 2, 1);
      x.read(4, 0, 0, 1);
      due("torn() behind BAD", x.torn(), torn);
      x.read(0, 3, 0, 1);
      due("torn() behind BAD", x.torn(), torn);
      x.read(0, 0, 0, 25);
      due("torn() behind BAD", x.torn(), torn);
      due("read of no COUNT", x.read(0, 0, 0, 2), -21);
      due("torn() behind no COUNT", x.torn(), torn);
      hearOnly(x, 24, 0);
      due("read without room", x.read(0, 0, 0, 1), FULL);
      due("torn() behind FULL", x.torn(), torn);
    }
  }

  // ---- count

  private static void countBounds() {
    says(44, "How many: 0 COUNTS that were HEARD .. 5 CELLS of SHEET 0 (NONE: nothing). BAD");
    KnockWall x = new KnockWall();
    dueBounds("count(#)", x::count, 0, 0, 5, NONE);
    hearOnly(x, 24, 0);
    x.sheet(0, 0, 40);
    dueBounds("count(#)", x::count, 0, 24, 5, 40);
    x.sheet(0, 0, 0);
    due("count(5) of no CELLS", x.count(5), 0);
    KnockWall another = new KnockWall();
    another.sheet(1, 0, 7);
    due("count(5) of another SHEET", another.count(5), NONE);
  }

  private static void countOfLetters() {
    says(44, "1 letters that WORDS have (unlike ones)");
    due("count(1) without WORDS", new KnockWall().count(1), 0);
    due("count(1) of one", told("word zzzzzzzz 1;").count(1), 1);
    due("count(1) of two alike", told("word a 1;word a 1;").count(1), 1);
    due("count(1) of all", told("word abcdefgh 1;word ijlmnopq 1;word rstuvwxy 1;word za 1;").count(1), 25);
    due("count(1) of SHORTS", told("short a bc;word d 1;").count(1), 1);
  }

  private static void countOfTape() {
    says(44, "4 bytes on THE TAPE");
    KnockWall x = new KnockWall();
    due("count(4)", x.count(4), 0);
    say(x, "?".repeat(320));
    due("count(4)", x.count(4), 320);
    x.end(1);
    due("count(4)", x.count(4), 1);
    x.code();
    due("count(4)", x.count(4), 0);
  }

  private static void countOfImages() {
    says(44, "3 IMAGES");
    KnockWall x = new KnockWall();
    x.keep(1);
    due("count(3)", x.count(3), 1);
    x.keep(1);
    due("count(3)", x.count(3), 1);
    x.keep(0);
    due("count(3)", x.count(3), 2);
    x.back(0);
    due("count(3)", x.count(3), 2);
    x.code();
    due("count(3)", x.count(3), 0);
  }

  public static void main(String[] args) {
    keepBounds();
    backBounds();
    imageOfNothing();
    imageIsACopy();
    imageHasNoMore();
    sheetBounds();
    sheetBadAheadOfSize();
    newRow();
    sheetsApart();
    layBounds();
    lowestBits();
    readBounds();
    readNothing();
    readNull();
    readCast();
    readIndex();
    readNoCount();
    readFull();
    firstMet();
    tornAtFirst();
    tornIsLeft();
    countBounds();
    countOfLetters();
    countOfTape();
    countOfImages();
    close();
  }
}
