/** The edges that the document names for teaching and the cells: promises 33 to 37. */
public final class EdgesOfCells extends Bench {
  private static final int ALL = 2047;

  // ---- teach

  private static void dueLesson(String text, int knocks, int words, int bits) {
    KnockWall x = told(text);
    due("teach(0) of '" + text + "'", x.teach(0), knocks);
    due("teach(1) of '" + text + "'", x.teach(1), words);
    due("teach(2) of '" + text + "'", x.teach(2), bits);
  }

  private static void teachBounds() {
    says(33, "TEACHING: KNOCKS (what 0), how many WORDS (1), these (2, bits). BAD");
    KnockWall x = told("word zz 1;word b 1;");
    dueBounds("teach(#)", x::teach, 0, 23, 2, 3);
    dueBounds("teach(#) without WORDS", new KnockWall()::teach, 0, 0, 2, 0);
  }

  private static void noneAndAll() {
    says("TEACHING: some WORDS that have together all letters that WORDS have");
    dueLesson("", 0, 0, 0);
    dueLesson("word a 1;", 2, 1, 1);
    dueLesson("word zzzzzzzz 99;", 80, 1, 1);
    dueLesson("word a 1;word b 1;word c 1;word d 1;word e 1;word f 1;word g 1;word h 1;word i 1;word z 1;",
        2 + 3 + 4 + 5 + 6 + 3 + 4 + 5 + 6 + 10, 10, 1023);
    dueLesson("word az 1;".repeat(9) + "word a 1;", 12, 1, 1);
    dueLesson("word a 1;".repeat(9) + "word az 1;", 12, 1, 512);
    dueLesson("word a 1;".repeat(9) + "word b 1;", 5, 2, 513);
  }

  private static void wordsNoLongerTold() {
    says("TEACHING: some WORDS, none that an earlier code told");
    KnockWall x = told("word zzzzzzzz 1;word z 1;");
    due("teach(0) of two", x.teach(0), 10);
    code(x, "");
    code(x, "word zzzzzzzz 1;");
    due("teach(0) of one", x.teach(0), 80);
    due("teach(2) of one", x.teach(2), 1);
  }

  private static void fewestKnocks() {
    says("TEACHING: the fewest KNOCKS");
    dueLesson("word abcdd 1;word ab 1;word cd 1;", 14, 2, 6);
    dueLesson("word zzab 1;word za 1;word b 1;", 15, 2, 6);
    dueLesson("word aab 1;word ab 1;", 5, 1, 2);
    dueLesson("word ab 1;word bc 1;word ac 1;", 11, 2, 5);
  }

  private static void fewestWords() {
    says("TEACHING: then the fewest WORDS");
    dueLesson("word ab 1;word cd 1;word abcd 1;", 14, 1, 4);
    dueLesson("word abcd 1;word ab 1;word cd 1;", 14, 1, 1);
    dueLesson("word a 1;word b 1;word c 1;word ab 1;", 9, 2, 12);
  }

  private static void leastBits() {
    says("TEACHING: then the least bits");
    dueLesson("word ab 1;word ba 1;", 5, 1, 1);
    dueLesson("word ac 1;word ab 1;word cd 1;word bd 1;", 14, 2, 6);
    dueLesson("word ab 1;word cd 1;word ba 1;word dc 1;", 14, 2, 3);
    dueLesson("word cd 1;".repeat(5) + "word ab 1;".repeat(5), 14, 2, 33);
  }

  // ---- said, knows

  private static void saidBounds() {
    says(34, "A WORD is SAID from a CELL to another one (or to itself): how many CELLS have heard it now. BAD");
    KnockWall x = told("word a 1;".repeat(10));
    dueBounds("said(#, 5, 5)", w -> x.said(w, 5, 5), 0, 1, 9, 1);
    dueBounds("said(1, #, 0)", a -> x.said(1, a, 0), 0, 1, 10, 11);
    dueBounds("said(2, 10, #)", b -> x.said(2, 10, b), 0, 11, 10, 11);
    dueBounds("said(3, #, 10)", a -> x.said(3, a, 10), 0, 11, 10, 11);
    dueBounds("said(4, 0, #)", b -> x.said(4, 0, b), 0, 1, 10, 11);
    KnockWall none = new KnockWall();
    dueBad("said(#, 0, 0) without WORDS", w -> none.said(w, 0, 0), -1, 0, 1);
    KnockWall one = told("word a 1;");
    dueBounds("said(#, 0, 0) of one WORD", w -> one.said(w, 0, 0), 0, 1, 0, 1);
  }

  private static void allBetween() {
    says("CELLS 0 to 10: what is SAID from one to another one is heard by these and all between");
    for (int a = 0; a <= 10; a++) {
      KnockWall x = told("word a 1;word b 1;");
      for (int b = 0; b <= 10; b++) {
        code(x, "word a 1;word b 1;");
        int least = Math.min(a, b);
        int many = Math.abs(a - b) + 1;
        due("said(1, " + a + ", " + b + ")", x.said(1, a, b), many);
        due("knows(1) of " + a + ", " + b, x.knows(1), ((1 << many) - 1) << least);
        due("knows(0) of another WORD", x.knows(0), 0);
      }
    }
  }

  private static void onceMore() {
    says(34, "how many CELLS have heard it now");
    KnockWall x = told("word a 1;");
    due("said(0, 0, 0)", x.said(0, 0, 0), 1);
    due("said(0, 0, 0) once more", x.said(0, 0, 0), 1);
    due("said(0, 10, 10)", x.said(0, 10, 10), 2);
    due("said(0, 1, 9)", x.said(0, 1, 9), 11);
    due("said(0, 3, 4) of all", x.said(0, 3, 4), 11);
    due("knows(0)", x.knows(0), ALL);
  }

  private static void knowsBounds() {
    says(35, "CELLS that have heard a WORD (bits). BAD");
    KnockWall none = new KnockWall();
    dueBad("knows(#) without WORDS", none::knows, -1, 0, 1, LOW, HIGH);
    KnockWall ten = told("word a 1;".repeat(10));
    ten.said(9, 0, 10);
    dueBounds("knows(#)", ten::knows, 0, 0, 9, ALL);
    KnockWall two = told("word a 1;word b 1;");
    two.said(1, 10, 10);
    dueBounds("knows(#)", two::knows, 0, 0, 1, 1024);
  }

  // ---- ask

  private static void askBounds() {
    says(36, "two CELLS (or one, told twice) have heard and none of some others (bits 0 to 2047). BAD; NONE");
    KnockWall x = told("word a 1;");
    x.said(0, 0, 10);
    dueBounds("ask(#, 5, 0)", a -> x.ask(a, 5, 0), 0, 0, 10, 0);
    dueBounds("ask(5, #, 0)", b -> x.ask(5, b, 0), 0, 0, 10, 0);
    dueBounds("ask(5, 5, #)", others -> x.ask(5, 5, others), 0, 0, ALL, NONE);
    KnockWall none = new KnockWall();
    due("ask(0, 10, 0) without WORDS", none.ask(0, 10, 0), NONE);
    dueBounds("ask(0, 0, #) without WORDS", others -> none.ask(0, 0, others), 0, NONE, ALL, NONE);
    dueBad("ask(#, 0, 0) without WORDS", a -> none.ask(a, 0, 0), -1, 11);
  }

  private static void bothAndNone() {
    says(36, "that two CELLS have heard and none of some others");
    KnockWall x = told("word a 1;");
    x.said(0, 1, 9);
    due("ask(1, 9, 0)", x.ask(1, 9, 0), 0);
    due("ask(9, 1, 0)", x.ask(9, 1, 0), 0);
    due("ask(0, 9, 0)", x.ask(0, 9, 0), NONE);
    due("ask(1, 10, 0)", x.ask(1, 10, 0), NONE);
    due("ask(0, 0, 0)", x.ask(0, 0, 0), NONE);
    due("ask(1, 1, 0) of one, told twice", x.ask(1, 1, 0), 0);
    due("ask(1, 9, 1025), others that have not", x.ask(1, 9, 1025), 0);
    for (int cell = 1; cell <= 9; cell++) {
      due("ask(1, 9, CELL " + cell + ")", x.ask(1, 9, 1 << cell), NONE);
    }
    due("ask(0, 10, 0), NONE of no CELL", x.ask(0, 10, 0), NONE);
  }

  private static void askOfSeveral() {
    says(36, "The WORD with the fewest KNOCKS, of several the least");
    KnockWall x = told("word z 1;word ab 1;word d 1;word ba 1;");
    for (int w = 0; w < 4; w++) {
      x.said(w, 4, 6);
    }
    due("ask(4, 6, 0) of 10, 5, 5, 5", x.ask(4, 6, 0), 1);
    x.said(1, 0, 0);
    due("ask(4, 6, 1) without the least", x.ask(4, 6, 1), 2);
    x.said(2, 0, 0);
    x.said(3, 0, 0);
    due("ask(4, 6, 1) with one left", x.ask(4, 6, 1), 0);
    x.said(0, 0, 0);
    due("ask(4, 6, 1) with none left", x.ask(4, 6, 1), NONE);
    x.swap(0, 24);
    due("ask(4, 6, 0) by another table", x.ask(4, 6, 0), 0);
  }

  // ---- heardBy

  private static void heardByBounds() {
    says(37, "How many CELLS have heard no WORD (what 0); the WORD that most CELLS have heard (1), by how many (2). BAD");
    KnockWall x = told("word a 1;word b 1;");
    x.said(1, 2, 4);
    dueBounds("heardBy(#)", x::heardBy, 0, 8, 2, 3);
    due("heardBy(1)", x.heardBy(1), 1);
  }

  private static void heardByWithoutWords() {
    says(37, "NONE: no WORDS; (2; 0)");
    KnockWall none = new KnockWall();
    dueBounds("heardBy(#) without WORDS", none::heardBy, 0, 11, 2, 0);
    due("heardBy(1) without WORDS", none.heardBy(1), NONE);
  }

  private static void heardByNoneOrAll() {
    says(37, "How many CELLS have heard no WORD");
    KnockWall x = told("word a 1;".repeat(10));
    due("heardBy(0) of none", x.heardBy(0), 11);
    due("heardBy(1) of none", x.heardBy(1), 0);
    due("heardBy(2) of none", x.heardBy(2), 0);
    x.said(9, 0, 9);
    due("heardBy(0) of ten", x.heardBy(0), 1);
    due("heardBy(1) of ten", x.heardBy(1), 9);
    due("heardBy(2) of ten", x.heardBy(2), 10);
    x.said(3, 10, 10);
    due("heardBy(0) of all", x.heardBy(0), 0);
  }

  private static void heardByOfSeveral() {
    says(37, "the WORD that most CELLS have heard, of several the least (1)");
    KnockWall x = told("word a 1;".repeat(10));
    x.said(9, 0, 9);
    x.said(3, 10, 10);
    due("heardBy(1)", x.heardBy(1), 9);
    x.said(8, 10, 1);
    due("heardBy(1) of two alike", x.heardBy(1), 8);
    x.said(0, 10, 0);
    due("heardBy(1)", x.heardBy(1), 0);
    due("heardBy(2)", x.heardBy(2), 11);
  }

  public static void main(String[] args) {
    teachBounds();
    noneAndAll();
    wordsNoLongerTold();
    fewestKnocks();
    fewestWords();
    leastBits();
    saidBounds();
    allBetween();
    onceMore();
    knowsBounds();
    askBounds();
    bothAndNone();
    askOfSeveral();
    heardByBounds();
    heardByWithoutWords();
    heardByNoneOrAll();
    heardByOfSeveral();
    close();
  }
}
