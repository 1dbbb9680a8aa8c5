/** Each promise of the document: ordinary inputs, the edges that it names, wrong inputs. */
public final class Promises extends Bench {
  private static void dueTable(int promise, KnockWall x, String want) {
    due(promise, "the table " + tableOf(x) + " is " + want, tableOf(x).equals(want) ? 1 : 0, 1);
  }

  private static void newObject() {
    KnockWall x = new KnockWall();
    int[] first = {0, 0, 1, 1, 3, 6, 12, 0};
    for (int i = 0; i < first.length; i++) {
      due(1, "told(" + i + ")", x.told(i), first[i]);
    }
    dueTable(1, x, FIRST_TABLE);
    for (int i = 0; i < 5; i++) {
      due(1, "count(" + i + ")", x.count(i), 0);
    }
    due(1, "count(5)", x.count(5), NONE);
    due(1, "fault()", x.fault(), 0);
    due(1, "torn()", x.torn(), 0);
    for (int k = 0; k < 4; k++) {
      due(1, "lay(" + k + ", 0, 0)", x.lay(k, 0, 0), -11);
    }
    due(1, "back(0)", x.back(0), STATE);
    due(1, "back(1)", x.back(1), STATE);
  }

  private static void feed() {
    KnockWall x = new KnockWall();
    due(2, "feed of 'ab1     '", x.feed(0x6162312020202020L), 8);
    due(2, "wrong()", x.wrong(), 2);
    due(2, "feed of a byte above 127", x.feed(0xE161616161616161L), 16);
    x = new KnockWall();
    x.feed(0x61E1616161616161L);
    due(2, "wrong() of a byte above 127", x.wrong(), 1);
    x = new KnockWall();
    for (int i = 1; i <= 40; i++) {
      due(2, "feed " + i, x.feed(0x6161616161616161L), 8 * i);
    }
    due(2, "feed 41", x.feed(0L), FULL);
    due(2, "count(4)", x.count(4), 320);
    due(2, "takes(0)", x.takes(0), 320);
    x.end(313);
    due(2, "feed behind 313", x.feed(0L), FULL);
    due(2, "count(4)", x.count(4), 313);
    x.end(312);
    due(2, "feed behind 312", x.feed(0L), 320);
    due(2, "wrong()", x.wrong(), 312);
  }

  private static void end() {
    KnockWall x = new KnockWall();
    due(3, "end(0)", x.end(0), 0);
    due(3, "end(1)", x.end(1), BAD);
    x.feed(0x6162636465666768L);
    due(3, "end(9)", x.end(9), BAD);
    due(3, "end(-1)", x.end(-1), BAD);
    due(3, "end(LOW)", x.end(LOW), BAD);
    due(3, "end(HIGH)", x.end(HIGH), BAD);
    due(3, "end(8)", x.end(8), 8);
    due(3, "end(3)", x.end(3), 8);
    due(3, "takes(0)", x.takes(0), 3);
    due(3, "end(4)", x.end(4), BAD);
    due(3, "end(0)", x.end(0), 3);
    due(3, "count(4)", x.count(4), 0);
  }

  private static void codeTakes() {
    KnockWall x = new KnockWall();
    due(4, "code() of nothing", x.code(), 0);
    due(4, "code() of blanks", code(x, "      "), 0);
    String text = "table zyxwvutsrqponmlkjihgfedcb;word xyz 99;short x yz;slip 0 9;time 1 99 50;guard 599 60;";
    due(4, "code() of six lines", code(x, text), 6);
    due(4, "the tape is empty", x.count(4), 0);
    int[] want = {1, 1, 0, 9, 1, 99, 50, 1};
    for (int i = 0; i < want.length; i++) {
      due(4, "told(" + i + ")", x.told(i), want[i]);
    }
    dueTable(4, x, "zyxwvutsrqponmlkjihgfedcb");
    due(4, "no blank where none is needed", code(x, "word ab12;slip0 009;time1 2 3;guard5 6;"), 4);
    due(4, "what no line tells is as at first", x.told(1), 0);
    dueTable(4, x, FIRST_TABLE);
    due(4, "told(3)", x.told(3), 9);
    due(4, "word(0, 1)", x.word(0, 1), 12);
    due(4, "blanks all about", code(x, "   word   b   1   ;   "), 1);
    due(4, "ten words", code(x, "word a 1;word b 1;word c 1;word d 1;word e 1;word a 1;word b 1;word c 1;word d 1;word e 1;"), 10);
    due(4, "six shorts, six guards", code(x, "short a aa;short a aa;short a aa;short a aa;short a aa;short abc abcdefgh;"
        + "guard 0 1;guard 0 1;guard 0 1;guard 0 1;guard 0 1;guard 0 1;"), 12);
    due(4, "words ahead of their table", code(x, "word k 1; table kbcdefghijlmnopqrstuvwxyz;"), 2);
  }

  private static void codeStandsOrStays() {
    KnockWall x = told("word ab 5; slip 2 3; guard 3 4;");
    x.hear(3);
    x.said(0, 1, 2);
    x.keep(1);
    x.swap(0, 1);
    x.sheet(2, 0, 5);
    due(4, "code() with a fault", code(x, "word cd 5; ?"), -21);
    due(4, "the tape is empty", x.count(4), 0);
    due(4, "told(0)", x.told(0), 1);
    due(4, "told(2)", x.told(2), 2);
    due(4, "word(0, 10)", x.word(0, 10), 'a');
    due(4, "count(0)", x.count(0), 1);
    due(4, "count(2)", x.count(2), 4);
    due(4, "count(3)", x.count(3), 1);
    due(4, "knows(0)", x.knows(0), 6);
    due(4, "table(0)", x.table(0), 'b');
    due(4, "code()", code(x, "word cd 5;"), 1);
    due(4, "count(0)", x.count(0), 0);
    due(4, "count(2)", x.count(2), 0);
    due(4, "count(3)", x.count(3), 0);
    due(4, "back(1)", x.back(1), STATE);
    due(4, "knows(0)", x.knows(0), 0);
    due(4, "told(2)", x.told(2), 1);
    dueTable(4, x, FIRST_TABLE);
    due(4, "the sheets stay", x.lay(2, 4, 1), 1);
    x.keep(0);
    code(x, "");
    due(4, "back(0)", x.back(0), STATE);
  }

  /** What an earlier code told, taken or not, is not in a later one. */
  private static void codeOnceMore() {
    KnockWall x = new KnockWall();
    String all = "table abcdefghijklmnopqrstuvwxy; word ab 1; short a bc; slip 1 2; time 1 2 3; guard 0 9;";
    for (int i = 0; i < 4; i++) {
      due(4, "code() of all lines", code(x, all), 6);
      due(4, "count(2)", x.count(2), 9);
      say(x, "bc");
      due(4, "takes(6)", x.takes(6), 1);
    }
    code(x, "short abc bc; guard 5 3; ?");
    due(4, "a fault leaves the shorts", x.told(1), 1);
    due(4, "code() without lines", code(x, ""), 0);
    due(4, "count(2)", x.count(2), 0);
    due(4, "code() of another guard", code(x, "short a de; guard 50 3;"), 2);
    due(4, "count(2)", x.count(2), 3);
    say(x, "bc de");
    due(4, "takes(6)", x.takes(6), 1);
    due(4, "takes(4)", x.takes(4), 7 + 2);
  }

  private static void dueFault(String text, int fault, int place) {
    KnockWall x = new KnockWall();
    due(4, "code() of '" + text + "'", code(x, text), -10 - place);
    due(5, "fault() of '" + text + "'", x.fault(), fault);
  }

  private static void faultsOfTokens() {
    dueFault("Word a 1;", 1, 0);
    dueFault("  ?", 1, 2);
    dueFault("word a 1;\n", 1, 9);
    dueFault("word a 1,", 1, 8);
    dueFault("word \u00e1 1;", 1, 5);
    dueFault("word a 1000;", 1, 7);
    dueFault("word 0001 1;", 1, 5);
    dueFault("1234", 1, 0);
    dueFault("woRd a 1;", 2, 0);
    dueFault("123", 2, 0);
    dueFault(";", 2, 0);
    dueFault("word a 1;;", 2, 9);
    dueFault("words a 1;", 2, 0);
    dueFault("xord a 1;", 2, 0);
    dueFault("worx a 1;", 2, 0);
    dueFault("tablx abc;", 2, 0);
    dueFault("wor", 2, 0);
    dueFault("word", 2, 4);
    dueFault("word   ", 2, 7);
    dueFault("word a", 2, 6);
    dueFault("word a 1", 2, 8);
    dueFault("word a 1   ", 2, 11);
    dueFault("word 1 1;", 2, 5);
    dueFault("word a a;", 2, 7);
    dueFault("word a;", 2, 6);
    dueFault("word a 1 1;", 2, 9);
    dueFault("word a 1 a", 2, 9);
    dueFault("table 5;", 2, 6);
    dueFault("short a 5;", 2, 8);
    dueFault("slip a 5;", 2, 5);
    dueFault("time 1 2;", 2, 8);
    dueFault("guard 5;", 2, 7);
  }

  private static void faultsOfBounds() {
    dueFault("word a 0;", 3, 7);
    dueFault("word a 100;", 3, 7);
    dueFault("word abcdefghi 1;", 3, 5);
    dueFault("short abcd ab;", 3, 6);
    dueFault("short a a;", 3, 8);
    dueFault("short a abcdefghi;", 3, 8);
    dueFault("slip 10 1;", 3, 5);
    dueFault("slip 1 10;", 3, 7);
    dueFault("time 0 1 1;", 3, 5);
    dueFault("time 1 0 1;", 3, 7);
    dueFault("time 1 1 0;", 3, 9);
    dueFault("time 100 1 1;", 3, 5);
    dueFault("time 1 100 1;", 3, 7);
    dueFault("time 1 1 100;", 3, 9);
    dueFault("guard 600 1;", 3, 6);
    dueFault("guard 0 0;", 3, 8);
    dueFault("guard 0 61;", 3, 8);
    dueFault("table abc;", 3, 6);
    dueFault("table abcdefghijklmnopqrstuvwxyz;", 3, 6);
    dueFault("table aacdefghijklmnopqrstuvwxy;", 3, 6);
    dueFault("table abcdefghijklmnopqrstuvwxx", 3, 6);
    dueFault("word a 0", 3, 7);
    dueFault("word abcdefghi ?", 3, 5);
  }

  private static void faultsOfMany() {
    String table = "table abcdefghijklmnopqrstuvwxy;";
    dueFault(table + "table", 4, 32);
    dueFault(table + " table abc;", 4, 33);
    dueFault("slip 1 1;slip ?", 4, 9);
    dueFault("time 1 1 1; time", 4, 12);
    String five = "word a 1;word a 1;word a 1;word a 1;word a 1;";
    dueFault(five + five + "word", 5, 90);
    dueFault(five + five + " word ab", 5, 91);
    String three = "short a aa;short a aa;short a aa;";
    dueFault(three + three + "short ?", 5, 66);
    String guards = "guard 0 1;guard 0 1;guard 0 1;";
    dueFault(guards + guards + "guard 700", 5, 60);
    dueFault("word k 1;", 6, 9);
    dueFault("word k 1;   ", 6, 12);
    dueFault("short k aa;", 6, 11);
    dueFault("short a ak;", 6, 11);
    dueFault("word z 1; " + table, 6, 42);
    dueFault("word k 1; ?", 1, 10);
    KnockWall x = new KnockWall();
    code(x, "?");
    due(5, "fault()", x.fault(), 1);
    x.hear(1);
    due(5, "fault() stays", x.fault(), 1);
    x.code();
    due(5, "fault() of a code that is taken", x.fault(), 0);
  }

  /** THE TAPE to its last byte, and as many WORDS as there can be. */
  private static void mostOfAll() {
    dueFault("a".repeat(320), 2, 0);
    dueFault("word a " + " ".repeat(312) + "1", 2, 320);
    dueFault(" ".repeat(319) + "5", 2, 319);
    dueFault(" ".repeat(316) + "5555", 1, 316);
    KnockWall x = new KnockWall();
    due(4, "code() of 320 blanks", code(x, " ".repeat(320)), 0);
    due(4, "code() of 320 bytes", code(x, "word a " + " ".repeat(311) + "1;"), 1);
    StringBuilder ten = new StringBuilder();
    for (char c = 'a'; c < 'k'; c++) {
      ten.append("word ").append(c).append(" 9;");
    }
    code(x, ten.toString());
    due(36, "ask(0, 1, 0) of ten words", x.ask(0, 1, 0), NONE);
    due(34, "said(9, 0, 1)", x.said(9, 0, 1), 2);
    due(36, "ask(0, 1, 0) of ten words", x.ask(0, 1, 0), 9);
    due(37, "heardBy(1) of ten words", x.heardBy(1), 9);
    due(13, "mean(0) of ten words", x.mean(0), 9 * (20 + 25));
    due(14, "best(24) of ten words", x.best(24), 'z');
    due(23, "right(9, 1, 0) of ten words", x.right(9, 1, 0) > 0 ? 1 : 0, 1);
    due(23, "right(9, 1, 2) of ten words", x.right(9, 1, 2), BAD);
    due(33, "teach(2) of ten words", x.teach(2), 1023);
    hearAll(x, 2, 5);
    due(20, "likeliest() of ten words", x.likeliest(), 9);
    due(22, "fits() of ten words", x.fits(), 1 << 9 | 1 << 8 | 1 << 4 | 1 << 3);
  }

  private static void toldAndTable() {
    KnockWall x = told("word a 1;word b 1;word c 1;short a bb;short a cc;slip 4 5;time 7 8 9;guard 1 1;");
    int[] want = {3, 2, 4, 5, 7, 8, 9, 1};
    for (int i = 0; i < want.length; i++) {
      due(6, "told(" + i + ")", x.told(i), want[i]);
    }
    for (int bad : new int[] {-1, 8, LOW, HIGH}) {
      due(6, "told(" + bad + ")", x.told(bad), BAD);
    }
    x = told("table qwertyuiopasdfghjklzxcvbn;");
    dueTable(7, x, "qwertyuiopasdfghjklzxcvbn");
    for (int bad : new int[] {-1, 25, LOW, HIGH}) {
      due(7, "table(" + bad + ")", x.table(bad), BAD);
    }
    due(8, "place(q)", x.place('q'), 0);
    due(8, "place(n)", x.place('n'), 24);
    due(8, "place(a)", x.place('a'), 10);
    due(8, "place(m)", x.place('m'), NONE);
    for (int bad : new int[] {'a' - 1, 'z' + 1, 'A', 0, -1, 256 + 'a', LOW, HIGH}) {
      due(8, "place(" + bad + ")", x.place(bad), BAD);
    }
    due(8, "place(k) at first", new KnockWall().place('k'), NONE);
  }

  private static void word() {
    KnockWall x = told("word hello 7; word abcdefgh 99;");
    due(9, "word(0, 0)", x.word(0, 0), 5);
    due(9, "word(0, 1)", x.word(0, 1), 7);
    due(9, "word(0, 2)", x.word(0, 2), 26);
    due(9, "word(0, 10)", x.word(0, 10), 'h');
    due(9, "word(0, 14)", x.word(0, 14), 'o');
    due(9, "word(0, 15)", x.word(0, 15), BAD);
    due(9, "word(1, 0)", x.word(1, 0), 8);
    due(9, "word(1, 2)", x.word(1, 2), 32);
    due(9, "word(1, 17)", x.word(1, 17), 'h');
    for (int bad : new int[] {-1, 3, 9, 18, LOW, LOW + 10, HIGH}) {
      due(9, "word(1, " + bad + ")", x.word(1, bad), BAD);
    }
    for (int bad : new int[] {-1, 2, 10, LOW, HIGH}) {
      due(9, "word(" + bad + ", 0)", x.word(bad, 0), BAD);
    }
    x.swap(x.place('h'), x.place('z'));
    due(9, "word(0, 2) by another table", x.word(0, 2), 31);
  }

  private static void swap() {
    KnockWall x = new KnockWall();
    due(10, "swap(0, 24)", x.swap(0, 24), 1);
    dueTable(10, x, "zbcdefghijlmnopqrstuvwxya");
    due(10, "place(a)", x.place('a'), 24);
    due(10, "place(z)", x.place('z'), 0);
    due(10, "swap(3, 3)", x.swap(3, 3), 0);
    due(10, "swap(24, 0)", x.swap(24, 0), 1);
    for (int bad : new int[] {-1, 25, LOW, HIGH}) {
      due(10, "swap(0, bad)", x.swap(0, bad), BAD);
      due(10, "swap(bad, 0)", x.swap(bad, 0), BAD);
      due(10, "swap(bad, bad)", x.swap(bad, bad), BAD);
    }
    dueTable(10, x, FIRST_TABLE);
  }

  private static void dueSaying(KnockWall x, String text, int... want) {
    say(x, text);
    for (int i = 0; i < want.length; i++) {
      due(11, "takes(" + i + ") of '" + text + "'", x.takes(i), want[i]);
    }
    due(11, "takes(-1)", x.takes(-1), BAD);
    due(11, "takes(7)", x.takes(7), BAD);
    due(11, "the tape stays", x.count(4), text.length());
    due(12, "wrong() of '" + text + "'", x.wrong(), NONE);
  }

  private static void takes() {
    KnockWall x = told("short a hello; short b hello; short zzz ab; time 2 3 5;");
    dueSaying(x, "hello ab  hello", 12, 3, 57, 215, 9, 55, 2);
    dueSaying(x, "  a ", 1, 1, 2, 7, 2, 7, 0);
    dueSaying(x, "hell hellos", 10, 2, 19 + 33, 104 + 30 + 40 + 10, 52, 184, 0);
    x = told("short zz hello; short a hello; short zzz world; short a world; short d ab;");
    dueSaying(x, "hello", 5, 1, 26, 156, 20, 84, 1);
    dueSaying(x, "ab", 2, 1, 5, 39, 5, 39, 0);
    x.swap(0, 24);
    dueSaying(x, "hello", 5, 1, 26, 156, 4, 36, 1);
    x = told("short a hello; short b hallo; short c world;");
    dueSaying(x, "bello hellp hollo", 15, 3, 24 + 27 + 27, 78 * 3 + 90 + 144 + 48, 78, 516, 0);
    dueSaying(x, "hallo", 5, 1, 22, 66 + 30 + 48, 3, 15, 1);
    dueSaying(x, "world", 5, 1, 29, 87 + 30 + 48, 4, 18, 1);
    x = told("short zzz hello; short a hello;");
    dueSaying(x, "hello", 5, 1, 26, 156, 26, 156, 0);
    x = told("short ab kk; table kabcdefghijlmnopqrstuvwxy;");
    dueSaying(x, "kk k", 3, 2, 6, 18 + 18 + 12 + 24, 6, 72, 0);
    x = told("time 99 99 99;");
    dueSaying(x, "z".repeat(320), 320, 1, 3200, 99 * (3200 + 320 + 319), 3200, 99 * 3839, 0);
  }

  private static void dueNoSaying(KnockWall x, String text, int place) {
    say(x, text);
    due(12, "wrong() of '" + text + "'", x.wrong(), place);
    for (int i = 0; i < 7; i++) {
      due(11, "takes(" + i + ") of '" + text + "'", x.takes(i), STATE);
    }
    due(11, "takes(7)", x.takes(7), BAD);
    due(11, "takes(LOW)", x.takes(LOW), BAD);
  }

  private static void noSaying() {
    KnockWall x = new KnockWall();
    dueNoSaying(x, "", 0);
    dueNoSaying(x, "   ", 3);
    dueNoSaying(x, "abk", 2);
    dueNoSaying(x, "ab cd;k", 5);
    dueNoSaying(x, "  1", 2);
    dueNoSaying(x, "Ab", 0);
    dueNoSaying(x, "ab\u00ff", 2);
    code(x, "table kbcdefghijlmnopqrstuvwxyz;");
    dueNoSaying(x, "ka", 1);
    dueSaying(x, "k", 1, 1, 2);
  }

  private static void bestTable() {
    KnockWall x = told("word ab 3; word b 2;");
    due(13, "mean(0)", x.mean(0), 21);
    due(13, "mean(1)", x.mean(1), 19);
    String want = "badglcehmqfinrujosvxptwyz";
    for (int p = 0; p < 25; p++) {
      due(14, "best(" + p + ")", x.best(p), want.charAt(p));
    }
    for (int bad : new int[] {-1, 25, LOW, HIGH}) {
      due(14, "best(" + bad + ")", x.best(bad), BAD);
    }
    for (int bad : new int[] {-1, 2, LOW, HIGH}) {
      due(13, "mean(" + bad + ")", x.mean(bad), BAD);
    }
    dueTable(15, x, FIRST_TABLE);
    due(15, "adopt()", x.adopt(), 20);
    dueTable(15, x, want);
    due(15, "place(b)", x.place('b'), 0);
    due(15, "mean(0)", x.mean(0), 19);
    due(15, "adopt() again", x.adopt(), 0);
    x.swap(0, 1);
    due(13, "mean(0)", x.mean(0), 21);
    due(15, "adopt()", x.adopt(), 2);
    x = told("word zy 1;");
    due(14, "best(0) asked first", x.best(0), 'y');
    x = told("word zy 1;");
    due(15, "adopt() asked first", x.adopt(), 24);
    due(15, "table(0)", x.table(0), 'y');
    due(15, "table(1)", x.table(1), 'z');
    x = told("word zzy 2; word y 2; word ax 99; table zyxwvutsrqponmlkjihgfedca;");
    due(13, "mean(0)", x.mean(0), 8 + 12 + 99 * 4 + 99 * 10);
    due(13, "mean(1)", x.mean(1), 99 * 2 + 99 * 3 + 4 * 3 + 4 * 4);
    due(14, "best(0)", x.best(0), 'a');
    due(14, "best(1)", x.best(1), 'x');
    due(14, "best(5)", x.best(5), 'y');
    due(14, "best(2)", x.best(2), 'z');
    due(14, "best(6)", x.best(6), 'c');
    due(14, "best(24)", x.best(24), 'w');
  }

  private static void hearing() {
    KnockWall x = new KnockWall();
    due(17, "hush()", x.hush(), 0);
    due(18, "heard(0)", x.heard(0), BAD);
    for (int bad : new int[] {-1, 7, LOW, HIGH}) {
      due(16, "hear(" + bad + ")", x.hear(bad), BAD);
    }
    for (int i = 0; i < 24; i++) {
      due(16, "hear(" + i % 7 + ")", x.hear(i % 7), i + 1);
    }
    due(16, "hear(6) too many", x.hear(6), FULL);
    due(16, "hear(7) too many", x.hear(7), BAD);
    for (int i = 0; i < 24; i++) {
      due(18, "heard(" + i + ")", x.heard(i), i % 7);
    }
    for (int bad : new int[] {-1, 24, LOW, HIGH}) {
      due(18, "heard(" + bad + ")", x.heard(bad), BAD);
    }
    due(17, "hush()", x.hush(), 24);
    due(17, "hush() again", x.hush(), 0);
    due(18, "heard(0)", x.heard(0), BAD);
    due(16, "hear(5)", x.hear(5), 1);
    due(18, "heard(0)", x.heard(0), 5);
  }

  private static void chance() {
    KnockWall x = told("word ab 1; word aa 3; word a 9; slip 2 3;");
    hearAll(x, 1, 1, 1, 2);
    due(19, "chance(0, 0)", x.chance(0, 0), 50625);
    due(19, "chance(1, 0)", x.chance(1, 0), 30375);
    due(19, "chance(2, 0)", x.chance(2, 0), 0);
    due(19, "chance(2, 1)", x.chance(2, 1), 81000);
    due(20, "likeliest()", x.likeliest(), 0);
    due(21, "sure(0)", x.sure(0), 5);
    due(21, "sure(1)", x.sure(1), 8);
    due(22, "fits()", x.fits(), 3);
    hearAll(x, 0, 1);
    due(19, "chance(2, 0) of one less", x.chance(2, 0), 2 * 15 * 9);
    due(19, "chance(0, 0)", x.chance(0, 0), 0);
    due(20, "likeliest()", x.likeliest(), 2);
    due(22, "fits()", x.fits(), 4);
    due(21, "sure(0)", x.sure(0), 1);
    due(21, "sure(1)", x.sure(1), 1);
    hearAll(x, 3, 1);
    due(19, "chance(2, 0) off by 2", x.chance(2, 0), 0);
    due(19, "chance(0, 1)", x.chance(0, 1), 0);
    due(20, "likeliest()", x.likeliest(), NONE);
    due(21, "sure(0)", x.sure(0), NONE);
    due(21, "sure(2)", x.sure(2), BAD);
    due(22, "fits()", x.fits(), 0);
    hearAll(x, 1, 1, 1, 1, 1, 1);
    due(20, "likeliest() of three letters", x.likeliest(), NONE);
    x = told("word ab 4; word ba 2; word ab 4;");
    hearAll(x, 1, 1, 1, 2);
    due(20, "likeliest() of several", x.likeliest(), 0);
    due(19, "chance(1, 0)", x.chance(1, 0), 18 * 18 * 2);
    due(21, "sure(0)", x.sure(0), 648);
    due(21, "sure(1)", x.sure(1), 1297);
    due(22, "fits()", x.fits(), 7);
  }

  /** Each call weighs anew. */
  private static void chanceAnew() {
    KnockWall x = told("word a 1; word z 1;");
    hearAll(x, 0, 0);
    due(22, "fits() of the least chance", x.fits(), 1);
    due(19, "chance(0, 0)", x.chance(0, 0), 1);
    hearAll(x, 5, 5);
    due(22, "fits()", x.fits(), 2);
    hearAll(x, 1, 1);
    due(20, "likeliest()", x.likeliest(), 0);
    hearAll(x, 6, 6);
    due(20, "likeliest()", x.likeliest(), 1);
    x = told("word a 1; word b 1;");
    hearAll(x, 1, 0);
    due(21, "sure(1)", x.sure(1), 1);
    hearAll(x, 1, 1);
    due(21, "sure(0)", x.sure(0), 18);
    due(21, "sure(1)", x.sure(1), 19);
  }

  private static void chanceRefused() {
    for (int n = 0; n <= 24; n++) {
      KnockWall x = told("word aaaaaa 99;".repeat(9) + "word aaaaaaaa 1;slip 0 0;");
      hearOnly(x, n, 1);
      boolean weighed = n > 0 && n % 2 == 0 && n <= 12;
      due(19, "chance(0, 0) of " + n, x.chance(0, 0), n == 12 ? 405504000000000000L : weighed ? 0 : STATE);
      due(19, "chance(9, 1) of " + n, x.chance(9, 1), n == 12 ? 3649536000000000000L : weighed ? 0 : STATE);
      due(20, "likeliest() of " + n, x.likeliest(), n == 12 ? 0 : weighed ? NONE : STATE);
      due(21, "sure(1) of " + n, x.sure(1), n == 12 ? 9 : weighed ? NONE : STATE);
      due(22, "fits() of " + n, x.fits(), n == 12 ? 511 : weighed ? 0 : STATE);
      for (int bad : new int[] {-1, 2, LOW, HIGH}) {
        due(19, "chance(0, " + bad + ")", x.chance(0, bad), BAD);
        due(21, "sure(" + bad + ")", x.sure(bad), BAD);
      }
      for (int bad : new int[] {-1, 10, LOW, HIGH}) {
        due(19, "chance(" + bad + ", 1)", x.chance(bad, 1), BAD);
      }
    }
  }

  private static void dueFraction(int promise, String call, long top, long bottom, long wantTop, long wantBottom) {
    due(promise, call + ", numerator", top, wantTop);
    due(promise, call + ", denominator", bottom, wantBottom);
  }

  private static void dueRight(KnockWall x, int w, int n, long top, long bottom) {
    dueFraction(23, "right(" + w + ", " + n + ")", x.right(w, n, 0), x.right(w, n, 1), top, bottom);
  }

  private static void right() {
    KnockWall x = told("word a 1; word b 1; word abc 3; word abcd 1;");
    dueRight(x, 0, 1, 19, 20);
    dueRight(x, 1, 1, 19, 20);
    dueRight(x, 0, 2, 399, 400);
    dueRight(x, 1, 2, 363, 400);
    dueRight(x, 0, 3, 1589, 1600);
    dueRight(x, 1, 3, 1589, 1600);
    dueRight(x, 2, 1, 1, 1);
    due(23, "right(2, 2, 0)", x.right(2, 2, 0), STATE);
    due(23, "right(3, 1, 0)", x.right(3, 1, 0), STATE);
    for (int bad : new int[] {-1, 4, LOW, HIGH}) {
      due(23, "right(bad, 1, 0)", x.right(bad, 1, 0), BAD);
      due(23, "right(3, 1, bad)", x.right(3, 1, bad), BAD);
    }
    for (int bad : new int[] {0, 4, -1, LOW, HIGH}) {
      due(23, "right(3, bad, 0)", x.right(3, bad, 0), BAD);
    }
    x = told("word a 1; word b 18;");
    dueRight(x, 0, 1, 19, 20);
    x = told("word a 1; word b 19;");
    dueRight(x, 0, 1, 1, 20);
    dueRight(x, 1, 1, 1, 1);
    x = told("word a 1; word b 1; slip 0 5;");
    dueRight(x, 0, 1, 3, 4);
    dueRight(x, 1, 1, 1, 1);
    x = told("word a 1; word f 1;");
    dueRight(x, 0, 1, 19, 20);
    x = told("word aa 1; word a 99;");
    dueRight(x, 0, 1, 1, 1);
    dueRight(x, 1, 3, 1, 1);
    x = told("word ab 1; word ab 2; word ab 2;");
    dueRight(x, 0, 1, 0, 1);
    dueRight(x, 1, 1, 1, 1);
    dueRight(x, 2, 1, 0, 1);
    due(23, "right(0, 2, 0)", x.right(0, 2, 0), STATE);
  }

  private static void dueMouths(KnockWall x, int n, int as, int m, long top, long bottom) {
    dueFraction(24, "mouths(" + n + ", " + as + ", " + m + ")", x.mouths(n, as, m, 0), x.mouths(n, as, m, 1), top, bottom);
  }

  private static void dueLetter(KnockWall x, int place, int as, int m, long top, long bottom) {
    dueFraction(25, "letter(" + place + ", " + as + ", " + m + ")", x.letter(place, as, m, 0), x.letter(place, as, m, 1), top, bottom);
  }

  private static void mouths() {
    KnockWall x = told("slip 2 3;");
    dueMouths(x, 3, 3, 0, 1, 1);
    dueMouths(x, 3, 2, 0, 0, 1);
    dueMouths(x, 3, 3, 1, 3, 4);
    dueMouths(x, 1, 1, 1, 17, 20);
    dueMouths(x, 5, 5, 1, 9, 10);
    dueMouths(x, 3, 2, 1, 1, 10);
    dueMouths(x, 3, 4, 1, 3, 20);
    dueMouths(x, 3, 5, 1, 0, 1);
    dueMouths(x, 3, 3, 2, 237, 400);
    dueMouths(x, 1, 1, 2, 59, 80);
    dueMouths(x, 1, 5, 4, 81, 160000);
    due(24, "mouths(1, 1, 10, 1)", x.mouths(1, 1, 10, 1) > 0 ? 1 : 0, 1);
    for (int bad : new int[] {0, 6, -1, LOW, HIGH}) {
      due(24, "mouths(bad, 1, 1, 0)", x.mouths(bad, 1, 1, 0), BAD);
      due(24, "mouths(1, bad, 1, 0)", x.mouths(1, bad, 1, 0), BAD);
    }
    for (int bad : new int[] {-1, 11, LOW, HIGH}) {
      due(24, "mouths(1, 1, bad, 0)", x.mouths(1, 1, bad, 0), BAD);
      due(24, "mouths(1, 1, 1, bad)", x.mouths(1, 1, 1, bad), BAD);
    }
    due(24, "mouths(1, 1, 1, 2)", x.mouths(1, 1, 1, 2), BAD);
    dueLetter(x, 12, 12, 1, 9, 16);
    dueLetter(x, 12, 7, 1, 3, 40);
    dueLetter(x, 12, 11, 1, 3, 40);
    dueLetter(x, 12, 13, 1, 9, 80);
    dueLetter(x, 1, 0, 1, 17, 200);
    dueLetter(x, 5, 0, 1, 17, 200);
    dueLetter(x, 1, 1, 1, 51, 80);
    dueLetter(x, 4, 4, 1, 153, 200);
    dueLetter(x, 4, 5, 3, 0, 1);
    due(25, "letter(4, 4, 5, 0)", x.letter(4, 4, 5, 0) > 0 ? 1 : 0, 1);
    dueLetter(x, 0, 24, 0, 0, 1);
    dueLetter(x, 24, 24, 0, 1, 1);
    dueLetter(x, 0, 24, 4, 6561, 25600000000L);
    for (int bad : new int[] {25, -1, LOW, HIGH}) {
      due(25, "letter(bad, 1, 1, 0)", x.letter(bad, 1, 1, 0), BAD);
      due(25, "letter(1, bad, 1, 0)", x.letter(1, bad, 1, 0), BAD);
      due(25, "letter(1, 1, bad, 0)", x.letter(1, 1, bad, 0), BAD);
      due(25, "letter(1, 1, 1, bad)", x.letter(1, 1, 1, bad), BAD);
      due(26, "becomes(bad, 1)", x.becomes(bad, 1), BAD);
      due(26, "becomes(1, bad)", x.becomes(1, bad), BAD);
    }
    due(25, "letter(1, 1, 6, 0)", x.letter(1, 1, 6, 0), BAD);
    due(26, "becomes(1, 6)", x.becomes(1, 6), BAD);
  }

  private static void becomes() {
    KnockWall x = told("slip 0 9;");
    due(26, "becomes(0, 0)", x.becomes(0, 0), 0);
    due(26, "becomes(0, 1)", x.becomes(0, 1), 0);
    due(26, "becomes(0, 2)", x.becomes(0, 2), 6);
    due(26, "becomes(4, 2)", x.becomes(4, 2), 9);
    due(26, "becomes(20, 2)", x.becomes(20, 2), 21);
    due(26, "becomes(0, 5)", x.becomes(0, 5), 12);
    code(x, "slip 9 0;");
    due(26, "becomes(24, 2)", x.becomes(24, 2), 18);
    code(x, "slip 9 9;");
    due(26, "becomes(12, 1) of several", x.becomes(12, 1), 6);
    due(26, "becomes(14, 1)", x.becomes(14, 1), 9);
  }

  private static void duePipe(KnockWall x, int k, int p, long top, long bottom) {
    dueFraction(27, "pipe(" + k + ", " + p + ")", x.pipe(k, p, 0), x.pipe(k, p, 1), top, bottom);
  }

  private static void pipe() {
    KnockWall x = new KnockWall();
    duePipe(x, 1, 20, 1, 1);
    duePipe(x, 1, 0, 0, 1);
    duePipe(x, 1, 7, 7, 20);
    duePipe(x, 2, 10, 1, 2);
    duePipe(x, 2, 20, 0, 1);
    duePipe(x, 3, 1, 1083, 8000);
    duePipe(x, 10, 19, 19, 1024000000000L);
    for (int bad : new int[] {0, 11, -1, LOW, HIGH}) {
      due(27, "pipe(bad, 1, 0)", x.pipe(bad, 1, 0), BAD);
      due(28, "turns(bad)", x.turns(bad), BAD);
    }
    for (int bad : new int[] {21, -1, LOW, HIGH}) {
      due(27, "pipe(1, bad, 0)", x.pipe(1, bad, 0), BAD);
      due(27, "pipe(1, 1, bad)", x.pipe(1, 1, bad), BAD);
    }
    int[] want = {20, 10, 7, 5, 4, 3, 3, 3, 2, 2};
    for (int k = 1; k <= 10; k++) {
      due(28, "turns(" + k + ")", x.turns(k), want[k - 1]);
    }
  }

  private static void guards() {
    KnockWall x = told("guard 100 60; guard 120 10; guard 160 1; guard 590 60; guard 0 1;");
    due(29, "still(0, 0)", x.still(0, 0), 1);
    due(29, "still(1, 0)", x.still(1, 0), 0);
    due(29, "still(99, 0)", x.still(99, 0), 0);
    due(29, "still(100, 0)", x.still(100, 0), 1);
    due(29, "still(160, 0)", x.still(160, 0), 1);
    due(29, "still(161, 0)", x.still(161, 0), 0);
    due(29, "still(599, 0)", x.still(599, 0), 1);
    due(29, "still(0, 1)", x.still(0, 1), 1);
    due(29, "still(100, 1)", x.still(100, 1), 161);
    due(29, "still(161, 1)", x.still(161, 1), 161);
    due(29, "still(590, 1)", x.still(590, 1), NONE);
    due(29, "still(0, 2)", x.still(0, 2), 0);
    due(29, "still(1, 2)", x.still(1, 2), 100);
    due(29, "still(161, 2)", x.still(161, 2), 590);
    due(29, "still(599, 2)", x.still(599, 2), 599);
    due(29, "still(0, 2) without guards", new KnockWall().still(0, 2), NONE);
    due(30, "begin(0, 99)", x.begin(0, 99), 1);
    due(30, "begin(0, 100)", x.begin(0, 100), 161);
    due(30, "begin(2, 99)", x.begin(2, 99), 161);
    due(30, "begin(161, 429)", x.begin(161, 429), 161);
    due(30, "begin(162, 429)", x.begin(162, 429), NONE);
    due(30, "begin(589, 1)", x.begin(589, 1), 589);
    due(30, "begin(589, 2)", x.begin(589, 2), NONE);
    due(30, "begin(0, 600)", x.begin(0, 600), NONE);
    due(31, "nights(1)", x.nights(1), 99 + 429);
    due(31, "nights(10)", x.nights(10), 9 + 42);
    due(31, "nights(99)", x.nights(99), 1 + 4);
    due(31, "nights(100)", x.nights(100), 4);
    due(31, "nights(430)", x.nights(430), 0);
    due(32, "longest(0)", x.longest(0), 429);
    due(32, "longest(1)", x.longest(1), 161);
    due(44, "count(2)", x.count(2), 1 + 61 + 10);
    for (int bad : new int[] {-1, 600, LOW, HIGH}) {
      due(29, "still(bad, 0)", x.still(bad, 0), BAD);
      due(29, "still(0, bad)", x.still(0, bad), BAD);
      due(30, "begin(bad, 1)", x.begin(bad, 1), BAD);
      due(32, "longest(bad)", x.longest(bad), BAD);
    }
    due(29, "still(0, 3)", x.still(0, 3), BAD);
    due(32, "longest(2)", x.longest(2), BAD);
    for (int bad : new int[] {0, -1, 601, LOW, HIGH}) {
      due(30, "begin(0, bad)", x.begin(0, bad), BAD);
      due(31, "nights(bad)", x.nights(bad), BAD);
    }
    code(x, "guard 9 1;");
    due(31, "nights(10) with nine minutes ahead", x.nights(10), 59);
    due(31, "nights(9) with nine minutes ahead", x.nights(9), 1 + 65);
    code(x, "guard 299 2;");
    due(32, "longest(0) of two alike", x.longest(0), 299);
    due(32, "longest(1) of two alike", x.longest(1), 0);
    x = new KnockWall();
    due(32, "longest(0)", x.longest(0), 600);
    due(32, "longest(1)", x.longest(1), 0);
    due(30, "begin(0, 600)", x.begin(0, 600), 0);
    due(30, "begin(1, 600)", x.begin(1, 600), NONE);
    due(31, "nights(600)", x.nights(600), 1);
    due(31, "nights(200)", x.nights(200), 3);
    due(31, "nights(7)", x.nights(7), 85);
  }

  private static void dueLesson(String text, int knocks, int words, int bits) {
    KnockWall x = told(text);
    due(33, "teach(0) of '" + text + "'", x.teach(0), knocks);
    due(33, "teach(1) of '" + text + "'", x.teach(1), words);
    due(33, "teach(2) of '" + text + "'", x.teach(2), bits);
  }

  private static void teach() {
    dueLesson("", 0, 0, 0);
    dueLesson("word z 1;", 10, 1, 1);
    dueLesson("word ab 1; word cd 1; word abcd 1;", 14, 1, 4);
    dueLesson("word ab 1; word ba 1;", 5, 1, 1);
    dueLesson("word ac 1; word ab 1; word cd 1; word bd 1;", 14, 2, 6);
    dueLesson("word zzzzzzzz 1; word z 1; word zaz 1;", 22, 1, 4);
    dueLesson("word az 1; word a 1; word bz 1; word b 1;", 15, 2, 6);
    dueLesson("word a 1;word b 1;word c 1;word d 1;word e 1;word f 1;word g 1;word h 1;word i 1;word z 1;", 48, 10, 1023);
    KnockWall x = told("word ab 1; word cd 1; word abcd 1;");
    x.swap(x.place('a'), x.place('z'));
    due(33, "teach(0) by another table", x.teach(0), 22);
    for (int bad : new int[] {-1, 3, LOW, HIGH}) {
      due(33, "teach(" + bad + ")", x.teach(bad), BAD);
    }
  }

  private static void said() {
    KnockWall x = told("word zz 1; word ab 1; word ba 1; word a 1;");
    due(37, "heardBy(0)", x.heardBy(0), 11);
    due(37, "heardBy(1)", x.heardBy(1), 0);
    due(37, "heardBy(2)", x.heardBy(2), 0);
    due(34, "said(0, 3, 6)", x.said(0, 3, 6), 4);
    due(35, "knows(0)", x.knows(0), 0x78);
    due(34, "said(0, 6, 5)", x.said(0, 6, 5), 4);
    due(34, "said(0, 0, 0)", x.said(0, 0, 0), 5);
    due(35, "knows(0)", x.knows(0), 0x79);
    due(34, "said(1, 10, 3)", x.said(1, 10, 3), 8);
    due(34, "said(2, 3, 10)", x.said(2, 3, 10), 8);
    due(35, "knows(3)", x.knows(3), 0);
    due(36, "ask(3, 6, 0)", x.ask(3, 6, 0), 1);
    due(36, "ask(6, 3, 1)", x.ask(6, 3, 1), 1);
    due(36, "ask(3, 6, 1024)", x.ask(3, 6, 1024), 0);
    due(36, "ask(3, 6, 1025)", x.ask(3, 6, 1025), NONE);
    due(36, "ask(0, 0, 0)", x.ask(0, 0, 0), 0);
    due(36, "ask(0, 10, 0)", x.ask(0, 10, 0), NONE);
    due(36, "ask(1, 1, 0)", x.ask(1, 1, 0), NONE);
    due(36, "ask(3, 3, 8)", x.ask(3, 3, 8), NONE);
    due(37, "heardBy(0)", x.heardBy(0), 2);
    due(37, "heardBy(1)", x.heardBy(1), 1);
    due(37, "heardBy(2)", x.heardBy(2), 8);
    x.said(3, 3, 6);
    due(36, "ask(3, 6, 0) of fewer knocks", x.ask(3, 6, 0), 3);
    x.swap(0, 24);
    due(36, "ask(3, 6, 0) by another table", x.ask(3, 6, 0), 0);
    for (int bad : new int[] {-1, 4, LOW, HIGH}) {
      due(34, "said(bad, 0, 0)", x.said(bad, 0, 0), BAD);
      due(35, "knows(bad)", x.knows(bad), BAD);
    }
    for (int bad : new int[] {-1, 11, LOW, HIGH}) {
      due(34, "said(0, bad, 0)", x.said(0, bad, 0), BAD);
      due(34, "said(0, 0, bad)", x.said(0, 0, bad), BAD);
      due(36, "ask(bad, 0, 0)", x.ask(bad, 0, 0), BAD);
      due(36, "ask(0, bad, 0)", x.ask(0, bad, 0), BAD);
    }
    for (int bad : new int[] {-1, 2048, LOW, HIGH}) {
      due(36, "ask(0, 0, bad)", x.ask(0, 0, bad), BAD);
      due(37, "heardBy(bad)", x.heardBy(bad), BAD);
    }
    due(36, "ask(0, 0, 2046)", x.ask(0, 0, 2046), NONE);
    due(37, "heardBy(3)", x.heardBy(3), BAD);
    due(35, "knows(0) stays", x.knows(0), 0x79);
    x = new KnockWall();
    due(37, "heardBy(0) without words", x.heardBy(0), 11);
    due(37, "heardBy(1) without words", x.heardBy(1), NONE);
    due(37, "heardBy(2) without words", x.heardBy(2), 0);
    due(34, "said(0, 0, 0) without words", x.said(0, 0, 0), BAD);
  }

  private static void images() {
    KnockWall x = told("word ab 1;");
    due(38, "keep(0)", x.keep(0), 0);
    due(38, "keep(0) again", x.keep(0), 1);
    due(39, "back(1)", x.back(1), STATE);
    hearAll(x, 1, 2, 3);
    x.said(0, 2, 3);
    x.swap(0, 1);
    due(38, "keep(1)", x.keep(1), 0);
    due(44, "count(3)", x.count(3), 2);
    hearAll(x, 4);
    x.said(0, 9, 9);
    x.adopt();
    x.sheet(0, 2, 7);
    type(x, "abc");
    due(39, "back(1)", x.back(1), 3);
    due(39, "heard(0)", x.heard(0), 1);
    due(39, "heard(2)", x.heard(2), 3);
    due(39, "knows(0)", x.knows(0), 12);
    due(39, "table(0)", x.table(0), 'b');
    due(39, "place(a)", x.place('a'), 1);
    due(39, "the tape stays", x.count(4), 3);
    due(39, "the sheets stay", x.count(5), 7);
    due(39, "back(0)", x.back(0), 0);
    due(39, "knows(0)", x.knows(0), 0);
    dueTable(39, x, FIRST_TABLE);
    x.hear(6);
    due(39, "back(1) once more", x.back(1), 3);
    due(39, "heard(0)", x.heard(0), 1);
    for (int bad : new int[] {-1, 2, LOW, HIGH}) {
      due(38, "keep(bad)", x.keep(bad), BAD);
      due(39, "back(bad)", x.back(bad), BAD);
    }
  }

  private static void sheets() {
    KnockWall x = new KnockWall();
    for (int bad : new int[] {-1, 4, LOW, HIGH}) {
      due(40, "sheet(bad, 0, -1)", x.sheet(bad, 0, -1), BAD);
      due(40, "sheet(0, bad, -1)", x.sheet(0, bad, -1), BAD);
      due(41, "lay(bad, 0, 0)", x.lay(bad, 0, 0), BAD);
    }
    due(40, "sheet(0, 3, 0)", x.sheet(0, 3, 0), BAD);
    due(40, "sheet(0, 0, 41)", x.sheet(0, 0, 41), BAD);
    due(40, "sheet(0, 0, HIGH)", x.sheet(0, 0, HIGH), BAD);
    due(40, "sheet(0, 0, -1)", x.sheet(0, 0, -1), -14);
    due(40, "sheet(0, 0, LOW)", x.sheet(0, 0, LOW), -14);
    due(44, "count(5)", x.count(5), NONE);
    due(40, "sheet(0, 0, 0)", x.sheet(0, 0, 0), 1);
    due(44, "count(5)", x.count(5), 0);
    due(41, "lay(0, 0, 0)", x.lay(0, 0, 0), -12);
    due(40, "sheet(0, 2, 40)", x.sheet(0, 2, 40), 1);
    due(44, "count(5)", x.count(5), 40);
    due(41, "lay(0, 39, 6)", x.lay(0, 39, 6), 1);
    for (int bad : new int[] {-1, 40, LOW, HIGH}) {
      due(41, "lay(0, bad, 0)", x.lay(0, bad, 0), -12);
      due(41, "lay(1, bad, 0)", x.lay(1, bad, 0), -11);
    }
    due(42, "read(0, 2, 38, 2)", x.read(0, 2, 38, 2), 2);
    due(42, "heard(0)", x.heard(0), 0);
    due(42, "heard(1)", x.heard(1), 6);
    x.sheet(0, 2, -1);
    due(40, "what is refused changes nothing", x.count(5), 40);
    x.sheet(0, 2, 40);
    due(40, "a new row", x.read(0, 2, 39, 1), 1);
    due(40, "has cells 0", x.heard(2), 0);
  }

  private static void lanes() {
    KnockWall x = new KnockWall();
    for (int lane = 0; lane < 3; lane++) {
      x.sheet(lane, lane, 4);
      x.lay(lane, 0, 5);
      x.lay(lane, 1, 256 + 3);
      x.lay(lane, 2, 65536 + 4);
      x.lay(lane, 3, -1);
    }
    due(41, "bytes", x.read(0, 0, 0, 4), -23);
    due(41, "bytes", x.read(0, 0, 0, 3), 3);
    due(41, "heard(1)", x.heard(1), 3);
    due(41, "heard(2)", x.heard(2), 4);
    due(41, "shorts", x.read(1, 1, 0, 2), -21);
    due(41, "shorts", x.read(1, 1, 2, 1), 1);
    due(41, "heard(3)", x.heard(3), 4);
    due(41, "ints", x.read(2, 2, 2, 1), -20);
    due(41, "ints", x.read(2, 2, 0, 1), 1);
    due(41, "a byte has a sign", x.lay(0, 0, 255), 1);
    due(41, "a byte has a sign", x.read(0, 0, 0, 1), -20);
    due(41, "a short has a sign", x.lay(1, 0, 65535 - 65536 * 3), 1);
    due(41, "a short has a sign", x.read(1, 1, 0, 1), -20);
    due(41, "lowest bits of a number below 0", x.lay(0, 0, LOW + 2), 1);
    due(41, "lowest bits of a number below 0", x.read(0, 0, 0, 1), 1);
    due(41, "heard(5)", x.heard(5), 2);
  }

  private static void reads() {
    KnockWall x = new KnockWall();
    x.hear(2);
    due(42, "read of nothing", x.read(3, 1, 0, 5), 0);
    due(43, "torn() NULL", x.torn(), 1);
    due(42, "read of nothing, n 0", x.read(3, 1, -7, 0), 0);
    due(43, "torn() of n 0", x.torn(), 0);
    x.sheet(3, 1, 3);
    x.lay(3, 0, 1);
    x.lay(3, 1, 2);
    x.lay(3, 2, 3);
    due(42, "read as of another lane", x.read(3, 0, 90, 2), 0);
    due(43, "torn() CAST", x.torn(), 3);
    due(42, "read as of another lane, n 0", x.read(3, 0, 0, 0), 0);
    due(43, "torn()", x.torn(), 0);
    x.sheet(0, 0, 3);
    for (int lane = 1; lane < 3; lane++) {
      due(42, "bytes read as of another lane", x.read(0, lane, 0, 2), 0);
      due(43, "torn() CAST", x.torn(), 3);
    }
    due(42, "read beyond the row", x.read(3, 1, 1, 5), 2);
    due(43, "torn() INDEX", x.torn(), 2);
    due(42, "count(0)", x.count(0), 3);
    due(42, "heard(1)", x.heard(1), 2);
    due(42, "heard(2)", x.heard(2), 3);
    x.lay(3, 0, 7);
    due(42, "read of no COUNT", x.read(3, 1, 0, 9), -20);
    due(43, "torn() is left", x.torn(), 2);
    due(42, "count(0)", x.count(0), 3);
    for (int f : new int[] {-1, 3, LOW, HIGH}) {
      due(42, "read from " + f, x.read(3, 1, f, 24), 0);
      due(43, "torn() from " + f, x.torn(), 2);
    }
    due(42, "read whole", x.read(3, 1, 1, 2), 2);
    due(43, "torn()", x.torn(), 0);
    for (int bad : new int[] {-1, 4, LOW, HIGH}) {
      due(42, "read(bad, 1, 0, 1)", x.read(bad, 1, 0, 1), BAD);
      due(42, "read(3, bad, 0, 0)", x.read(3, bad, 0, 0), BAD);
    }
    due(42, "read(3, 3, 0, 0)", x.read(3, 3, 0, 0), BAD);
    for (int bad : new int[] {-1, 25, LOW, HIGH}) {
      due(42, "read(3, 1, 0, bad)", x.read(3, 1, 0, bad), BAD);
    }
    due(42, "count(0)", x.count(0), 5);
  }

  private static void readsWithoutRoom() {
    KnockWall x = new KnockWall();
    x.sheet(0, 0, 30);
    x.lay(0, 20, 9);
    due(42, "read(0, 0, 0, 20)", x.read(0, 0, 0, 20), 20);
    due(42, "no room", x.read(0, 0, 0, 5), FULL);
    due(42, "count(0)", x.count(0), 20);
    due(42, "no COUNT is met first", x.read(0, 0, 18, 9), -22);
    due(42, "at the same CELL too", x.read(0, 0, 16, 9), -24);
    due(42, "no room is met first", x.read(0, 0, 15, 9), FULL);
    due(42, "INDEX is met first", x.read(0, 0, 27, 9), 3);
    due(43, "torn()", x.torn(), 2);
    due(42, "count(0)", x.count(0), 23);
    due(42, "read the last one", x.read(0, 0, 29, 2), 1);
    due(42, "INDEX where there is no room", x.read(0, 0, 30, 1), 0);
    due(43, "torn()", x.torn(), 2);
    due(42, "no room at all", x.read(0, 0, 0, 1), FULL);
    due(43, "torn() is left", x.torn(), 2);
    due(42, "n 0 needs no room", x.read(0, 0, 0, 0), 0);
    due(43, "torn()", x.torn(), 0);
    x.hush();
    due(42, "nothing came of what was refused", x.count(0), 0);
    x.hear(5);
    due(42, "heard(0)", x.heard(0), 5);
    due(42, "heard(1)", x.heard(1), BAD);
  }

  private static void count() {
    KnockWall x = told("word aab 1; word bc 1;");
    x.hear(1);
    x.hear(2);
    due(44, "count(0)", x.count(0), 2);
    due(44, "count(1)", x.count(1), 3);
    due(44, "count(2)", x.count(2), 0);
    x.keep(1);
    due(44, "count(3)", x.count(3), 1);
    type(x, "ab");
    due(44, "count(4)", x.count(4), 2);
    x.sheet(1, 0, 3);
    due(44, "count(5)", x.count(5), NONE);
    for (int bad : new int[] {-1, 6, LOW, HIGH}) {
      due(44, "count(" + bad + ")", x.count(bad), BAD);
    }
  }

  public static void main(String[] args) {
    newObject();
    feed();
    end();
    codeTakes();
    codeStandsOrStays();
    codeOnceMore();
    faultsOfTokens();
    faultsOfBounds();
    faultsOfMany();
    mostOfAll();
    toldAndTable();
    word();
    swap();
    takes();
    noSaying();
    bestTable();
    hearing();
    chance();
    chanceAnew();
    chanceRefused();
    right();
    mouths();
    becomes();
    pipe();
    guards();
    teach();
    said();
    images();
    sheets();
    lanes();
    reads();
    readsWithoutRoom();
    count();
    close();
  }
}
