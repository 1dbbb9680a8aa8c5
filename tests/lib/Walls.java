/** Objects to try calls on, from one that nothing was told to those that can hold no more. */
enum Walls {
  /** As it is made. */
  NEW,
  /** Something of everything; the tape has a saying, the latest code had a fault, a read was torn. */
  BUSY,
  /** Tape, heard COUNTS, words, shorts, guards and images to the last one; the tape is a saying. */
  CROWDED,
  /** As BUSY, with COUNTS that are odd and a tape that is no saying. */
  ODD;

  private static final String BUSY_CODE = "table kbcdefghijlmnopqrstuvwxyz; word kb 5; word cde 99; word bk 5;"
      + "word b 1; short k cde; short zz kb; slip 2 3; time 4 5 6; guard 0 7; guard 580 60; guard 100 2;";
  private static final String CROWDED_CODE = "word aaaaaa 9;word b 9;word c 9;word d 9;word e 9;word f 9;word g 9;"
      + "word h 9;word i 9;word zz 9;short a aa;short b bb;short c cc;short d dd;short e ee;short f ff;"
      + "slip 9 9;time 9 9 9;guard 1 1;guard 3 1;guard 5 1;guard 7 1;guard 9 1;guard 540 60;";

  KnockWall make() {
    switch (this) {
      case NEW: return new KnockWall();
      case BUSY: return busy();
      case CROWDED: return crowded();
      default: return odd();
    }
  }

  private static KnockWall busy() {
    KnockWall x = Bench.told(BUSY_CODE);
    laySheets(x);
    x.read(0, 2, 39, 2);
    Bench.hearAll(x, 3, 0, 6);
    x.said(0, 2, 4);
    x.said(3, 10, 9);
    x.keep(1);
    x.swap(0, 24);
    Bench.hearAll(x, 5, 6, 1, 2);
    x.said(1, 0, 0);
    x.keep(0);
    x.said(2, 7, 1);
    x.swap(3, 11);
    Bench.code(x, "word b 100;");
    Bench.type(x, "kb  cde b");
    return x;
  }

  private static void laySheets(KnockWall x) {
    x.sheet(0, 2, 40);
    x.lay(0, 0, 6);
    x.lay(0, 39, 5);
    x.sheet(1, 1, 3);
    x.lay(1, 1, 7);
    x.sheet(2, 0, 0);
  }

  private static KnockWall crowded() {
    KnockWall x = Bench.told(CROWDED_CODE);
    for (int w = 0; w < 10; w++) {
      x.said(w, 0, 10);
    }
    Bench.hearOnly(x, 24, 6);
    x.keep(0);
    x.keep(1);
    for (int k = 0; k < 4; k++) {
      x.sheet(k, k % 3, 40);
    }
    x.lay(0, 5, 7);
    Bench.type(x, "aa b ".repeat(64));
    return x;
  }

  private static KnockWall odd() {
    KnockWall x = busy();
    x.hear(0);
    x.keep(1);
    Bench.type(x, "ab?");
    return x;
  }
}
