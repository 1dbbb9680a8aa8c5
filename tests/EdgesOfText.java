/** The edges that the document names for the text: promises 1 to 10, THE TABLE and THE TAPE. */
public final class EdgesOfText extends Bench {
  private static final String[][] LINES = {
    {"table", FIRST_TABLE, ";"},
    {"word", "ab", "5", ";"},
    {"short", "a", "bc", ";"},
    {"slip", "1", "2", ";"},
    {"time", "1", "2", "3", ";"},
    {"guard", "5", "6", ";"}
  };
  /** Another answer for everything that a code can tell. */
  private static final String OTHER = "table zyxwvutsrqponmlkjihgfedcb; word zy 9; short y zy; slip 4 5;"
      + "time 7 8 9; guard 50 5;";

  private static void dueTaken(String text, int lines) {
    KnockWall x = new KnockWall();
    due("code() of '" + text + "'", code(x, text), lines);
    due("fault() of '" + text + "'", x.fault(), 0);
  }

  private static void dueFault(String text, int fault, int place) {
    KnockWall x = new KnockWall();
    due("code() of '" + text + "'", code(x, text), -10 - place);
    due("fault() of '" + text + "'", x.fault(), fault);
  }

  // ---- a new object

  private static void newText() {
    says(1, "All as told at first");
    KnockWall x = new KnockWall();
    int[] first = {0, 0, 1, 1, 3, 6, 12, 0};
    for (int what = 0; what < first.length; what++) {
      due("told(" + what + ")", x.told(what), first[what]);
    }
    due("the table", tableOf(x), FIRST_TABLE);
    due("word(0, 0)", x.word(0, 0), BAD);
    due("fault()", x.fault(), 0);
    due("count(4)", x.count(4), 0);
    due("wrong()", x.wrong(), 0);
    due("count(0)", x.count(0), 0);
    due("count(2)", x.count(2), 0);
    due("count(3)", x.count(3), 0);
    due("heardBy(0)", x.heardBy(0), 11);
    due("torn()", x.torn(), 0);
  }

  private static void newSheets() {
    says(1, "SHEETS have nothing");
    KnockWall x = new KnockWall();
    for (int k = 0; k < 4; k++) {
      due("lay(" + k + ", 0, 0)", x.lay(k, 0, 0), -11);
      due("read(" + k + ", 0, 0, 1)", x.read(k, 0, 0, 1), 0);
      due("torn()", x.torn(), 1);
    }
    due("count(5)", x.count(5), NONE);
  }

  private static void firstTableHasNoK() {
    says("at first a b c .. without k");
    KnockWall x = new KnockWall();
    due("table(9)", x.table(9), 'j');
    due("table(10)", x.table(10), 'l');
    due("place(j)", x.place('j'), 9);
    due("place(k)", x.place('k'), NONE);
    due("place(l)", x.place('l'), 10);
  }

  private static void lastCall() {
    says("An object is used for at most 512 calls after it has been made");
    KnockWall x = new KnockWall();
    for (int i = 0; i < 511; i++) {
      x.swap(0, 24);
    }
    due("table(0), the 512th call", x.table(0), 'z');
  }

  // ---- feed, end

  private static void highestByteFirst() {
    says(2, "Eight bytes come behind THE TAPE, the highest first: how many it has");
    for (int place = 0; place < 8; place++) {
      KnockWall x = new KnockWall();
      long digit = (long) ('a' ^ '1') << (56 - 8 * place);
      due("feed into nothing", x.feed(0x6161616161616161L ^ digit), 8);
      due("wrong()", x.wrong(), place);
      x.end(place);
      due("feed behind " + place, x.feed(0x6161616161616161L ^ digit), place + 8);
      due("wrong()", x.wrong(), place + place);
    }
  }

  private static void feedOfAnyByte() {
    says(2, "Eight bytes come");
    KnockWall x = new KnockWall();
    due("feed(Long.MIN_VALUE)", x.feed(Long.MIN_VALUE), 8);
    due("feed(Long.MAX_VALUE)", x.feed(Long.MAX_VALUE), 16);
    due("feed(-1)", x.feed(-1L), 24);
    due("feed(0)", x.feed(0L), 32);
    due("wrong()", x.wrong(), 0);
  }

  private static void feedFull() {
    says(2, "FULL: more than 320");
    KnockWall x = new KnockWall();
    for (int i = 1; i <= 40; i++) {
      due("feed " + i, x.feed(0x2020202020202020L), 8 * i);
    }
    due("feed behind 320", x.feed(0x6161616161616161L), FULL);
    due("count(4)", x.count(4), 320);
    due("wrong()", x.wrong(), 320);
    for (int n = 319; n >= 313; n--) {
      x.end(n);
      due("feed behind " + n, x.feed(0x6161616161616161L), FULL);
      due("count(4)", x.count(4), n);
      due("wrong()", x.wrong(), n);
    }
    x.end(312);
    due("feed behind 312", x.feed(0x6161616161616161L), 320);
    due("takes(0)", x.takes(0), 8);
  }

  private static void endOfNothing() {
    says(3, "BAD (n above that, too)");
    KnockWall x = new KnockWall();
    due("end(0) of nothing", x.end(0), 0);
    dueBad("end(#) of nothing", x::end, -1, 1, LOW, HIGH);
  }

  private static void endOfSome() {
    says(3, "THE TAPE keeps its first n bytes: how many it had. BAD (n above that, too)");
    KnockWall x = new KnockWall();
    x.feed(0x6162636465666768L);
    dueBad("end(#) of 8", x::end, -1, 9, LOW, HIGH);
    due("end(8) of 8", x.end(8), 8);
    due("end(7) of 8", x.end(7), 8);
    dueBad("end(#) of 7", x::end, 8);
    due("takes(2) of abcdefg", x.takes(2), 2 + 3 + 4 + 5 + 6 + 3 + 4);
    due("end(1) of 7", x.end(1), 7);
    due("takes(2) of a", x.takes(2), 2);
    due("end(0) of 1", x.end(0), 1);
    due("count(4)", x.count(4), 0);
  }

  private static void endOfAll() {
    says(3, "THE TAPE keeps its first n bytes: how many it had");
    KnockWall x = new KnockWall();
    say(x, "z".repeat(320));
    dueBad("end(#) of 320", x::end, 321, 328);
    due("end(320) of 320", x.end(320), 320);
    due("end(319) of 320", x.end(319), 320);
    due("takes(0)", x.takes(0), 319);
    due("end(0) of 319", x.end(0), 319);
  }

  // ---- code

  private static void codeOfNothing() {
    says(4, "THE TAPE (empty then, by a FAULT, too) tells the code: how many lines");
    dueTaken("", 0);
    dueTaken(" ", 0);
    dueTaken(" ".repeat(320), 0);
  }

  private static void codeEmptiesTheTape() {
    says(4, "empty then, by a FAULT, too");
    KnockWall x = new KnockWall();
    code(x, "word a 1;");
    due("count(4) behind a code", x.count(4), 0);
    code(x, "word a 1;?");
    due("count(4) behind a FAULT", x.count(4), 0);
    due("feed", x.feed(0x6161616161616161L), 8);
    due("wrong()", x.wrong(), NONE);
    code(x, "word k 1;");
    due("count(4) behind FAULT 6", x.count(4), 0);
  }

  private static void bytesBehindTheEnd() {
    says(3, "THE TAPE keeps its first n bytes");
    String text = "word ab 12;word cd 34;";
    for (int n = 0; n <= text.length(); n++) {
      KnockWall cut = new KnockWall();
      type(cut, text);
      cut.end(n);
      KnockWall whole = new KnockWall();
      type(whole, text.substring(0, n));
      due("code() of a tape cut to " + n, cut.code(), whole.code());
      due("fault() of a tape cut to " + n, cut.fault(), whole.fault());
    }
    dueFault("a".repeat(320), 2, 0);
    KnockWall x = new KnockWall();
    type(x, "word abcd");
    x.end(7);
    due("code() of 'word ab'", x.code(), -17);
    type(x, "word a 123");
    x.end(8);
    due("code() of 'word a 1'", x.code(), -18);
  }

  private static void placeOfTheFault() {
    says(4, "-10 less the place of its FAULT");
    dueFault("?", 1, 0);
    dueFault(" ?", 1, 1);
    dueFault("?".repeat(320), 1, 0);
    dueFault(" ".repeat(319) + "?", 1, 319);
    dueFault("word" + " ".repeat(316), 2, 320);
    dueFault("word k 1;" + " ".repeat(311), 6, 320);
  }

  private static void faultLeavesAll(String ending, int fault) {
    for (View view : View.values()) {
      if (view == View.TAPE || view == View.FAULT) {
        continue;
      }
      KnockWall x = Walls.BUSY.make();
      code(x, OTHER + ending);
      due("fault() of " + ending, x.fault(), fault);
      due(view + " behind '" + ending + "'", view.of(x), view.of(Walls.BUSY.make()));
    }
  }

  private static void whatWasToldStays() {
    says(4, "that which was told stays");
    faultLeavesAll("?", 1);
    faultLeavesAll("word", 2);
    faultLeavesAll("guard 600 1;", 3);
    faultLeavesAll("slip 1 1;", 4);
    faultLeavesAll("guard 1 1;".repeat(6), 5);
    faultLeavesAll("word a 1;", 6);
  }

  private static void whatNoLineTells() {
    says("A code that is taken stands in place of what there was (what no line tells is as at first)");
    for (View view : View.values()) {
      boolean stays = view == View.SHEETS || view == View.MORE_SHEETS || view == View.TORN;
      String want = view.of((stays ? Walls.BUSY : Walls.NEW).make());
      KnockWall x = Walls.BUSY.make();
      due("code() of no line", code(x, ""), 0);
      due(view + " behind a code of no line", view.of(x), want);
      KnockWall later = Walls.BUSY.make();
      code(later, OTHER);
      code(later, "");
      due("code() of no line once more", code(later, ""), 0);
      due(view + " behind some codes", view.of(later), want);
    }
  }

  private static void whatEachLineTells() {
    says("A code that is taken stands in place of what there was");
    for (View view : View.values()) {
      KnockWall x = told(OTHER + "guard 90 5;");
      code(x, "word b 5;short c de;guard 5 9;");
      code(x, OTHER + "?");
      for (int i = 0; i < 2; i++) {
        due("code() of " + OTHER, code(x, OTHER), 6);
      }
      due(view + " behind some codes", view.of(x), view.of(told(OTHER)));
    }
    String fewer = "word bcccc 1;short a bc;guard 5 1;";
    for (View view : View.values()) {
      boolean stays = view == View.SHEETS || view == View.MORE_SHEETS;
      KnockWall crowded = Walls.CROWDED.make();
      View.CELLS.of(crowded);
      code(crowded, "");
      code(crowded, fewer);
      due(view + " of fewer lines than before", view.of(crowded), view.of(stays ? Walls.CROWDED.make() : told(fewer)));
    }
    KnockWall x = told(OTHER);
    code(x, "");
    code(x, "short a bc;");
    say(x, "zy bc");
    due("takes(6) by the latest SHORTS", x.takes(6), 1);
  }

  private static void whatACodeTakesAway() {
    says("nothing is HEARD, SAID; IMAGES are gone; SHEETS stay");
    KnockWall x = told("word ab 1;");
    hearOnly(x, 24, 1);
    x.said(0, 0, 10);
    x.keep(0);
    x.keep(1);
    x.sheet(0, 1, 40);
    x.lay(0, 39, 5);
    code(x, "word ab 1;");
    due("count(0)", x.count(0), 0);
    due("heard(0)", x.heard(0), BAD);
    due("knows(0)", x.knows(0), 0);
    due("count(3)", x.count(3), 0);
    due("back(0)", x.back(0), STATE);
    due("back(1)", x.back(1), STATE);
    due("keep(0)", x.keep(0), 0);
    due("count(5)", x.count(5), 40);
    due("read(0, 1, 39, 1)", x.read(0, 1, 39, 1), 1);
    due("heard(0)", x.heard(0), 5);
  }

  private static void latestFault() {
    says(5, "The FAULT of the latest code(); 0");
    KnockWall x = new KnockWall();
    due("fault() at first", x.fault(), 0);
    code(x, "word a 100;");
    due("fault()", x.fault(), 3);
    due("fault() once more", x.fault(), 3);
    say(x, "word ?");
    due("fault() ahead of the next code()", x.fault(), 3);
    x.code();
    due("fault()", x.fault(), 1);
    x.code();
    due("fault() of an empty tape", x.fault(), 0);
  }

  // ---- TOKENS

  private static void everyByte() {
    says("every other byte is no TOKEN");
    for (int b = 0; b < 256; b++) {
      String sign = "" + (char) b;
      boolean stands = b >= 'a' && b <= 'z' || b >= '0' && b <= '9' || b == ';';
      if (b == ' ') {
        dueTaken(sign, 0);
        dueTaken("word a 1;" + sign, 1);
      } else {
        dueFault(sign, stands ? 2 : 1, 0);
        dueFault("word a 1;" + sign, stands ? 2 : 1, 9);
      }
    }
  }

  private static void numbersOfFigures() {
    says("NUMBERS (1 to 3 figures)");
    dueTaken("guard 5 1;", 1);
    dueTaken("guard 05 1;", 1);
    dueTaken("guard 005 1;", 1);
    dueTaken("guard 599 060;", 1);
  }

  private static void numbersTooLong() {
    says("1 no TOKEN, a NUMBER that is too long (its first byte)");
    dueFault("guard 0005 1;", 1, 6);
    dueFault("guard 1000 1;", 1, 6);
    dueFault("guard 5 0001;", 1, 8);
    dueFault("9".repeat(320), 1, 0);
    dueFault("word a " + "0".repeat(312) + "1", 1, 7);
    dueFault("word a " + "4294967297;", 1, 7);
  }

  private static void asLongAsMayBe() {
    says("TOKENS, each as long as may be");
    dueFault("wordab 5;", 2, 0);
    dueFault("word abcdefghi5;", 3, 5);
    dueFault("slip 12;", 3, 5);
    dueFault("guard 6000;", 1, 6);
    dueFault("word a 12345;", 1, 7);
  }

  private static void blanks() {
    says("any number of blanks (32) ahead of, between, behind them");
    dueTaken("word a 1;", 1);
    dueTaken(" word  a   1    ;     ", 1);
    dueTaken(" ".repeat(311) + "word a 1;", 1);
    dueTaken("word a 1;" + " ".repeat(311), 1);
    dueTaken("word" + " ".repeat(312) + "a 1;", 1);
  }

  private static void noBlanks() {
    says("one at least between two NAMES, between two NUMBERS; else none is needed");
    dueTaken("word ab12;word cd34;", 2);
    dueTaken("slip0 9;time1 2 3;guard599 60;", 3);
    dueFault("worda 1;", 2, 0);
    dueFault("short abc;", 2, 9);
    dueFault("slip 11;", 3, 5);
    dueFault("slip 1;", 2, 6);
  }

  // ---- lines, and where a TOKEN can not stand

  private static String head(String[] line, int tokens) {
    return String.join(" ", java.util.Arrays.copyOf(line, tokens));
  }

  private static boolean isName(String token) {
    return token.charAt(0) >= 'a';
  }

  private static boolean isNumber(String token) {
    return token.charAt(0) <= '9';
  }

  private static void everyLine() {
    says("code: { line }");
    for (String[] line : LINES) {
      dueTaken(head(line, line.length), 1);
      dueTaken(head(line, line.length).replace(" ;", ";"), 1);
      dueFault(head(line, line.length) + ";", 2, head(line, line.length).length());
    }
  }

  private static void theEnd() {
    says("2 a TOKEN that can not stand there (or the end: the length)");
    for (String[] line : LINES) {
      for (int i = 1; i < line.length; i++) {
        String text = head(line, i);
        dueFault(text, 2, text.length());
        dueFault(text + " ", 2, text.length() + 1);
        dueFault(text + " ".repeat(320 - text.length()), 2, 320);
      }
    }
  }

  private static void anotherToken() {
    says("2 a TOKEN that can not stand there");
    for (String[] line : LINES) {
      for (int i = 0; i < line.length; i++) {
        String text = i == 0 ? "" : head(line, i) + " ";
        if (!isName(line[i])) {
          dueFault(text + "a", 2, text.length());
        }
        if (!isNumber(line[i])) {
          dueFault(text + "5", 2, text.length());
          dueFault(text + "999", 2, text.length());
        }
        if (!line[i].equals(";")) {
          dueFault(text + ";", 2, text.length());
        }
      }
    }
  }

  private static void noToken() {
    says("1 no TOKEN, a NUMBER that is too long (its first byte)");
    for (String[] line : LINES) {
      for (int i = 0; i < line.length; i++) {
        String text = i == 0 ? "" : head(line, i) + " ";
        dueFault(text + "?", 1, text.length());
        dueFault(text + "1000", 1, text.length());
      }
    }
  }

  private static void namesThatBeginNoLine() {
    says("2 (a NAME that begins no line)");
    for (String[] line : LINES) {
      String name = line[0];
      String rest = head(line, line.length).substring(name.length());
      dueFault(name + "s" + rest, 2, 0);
      dueFault(name.substring(1) + rest, 2, 0);
      dueFault(name.substring(0, name.length() - 1) + rest, 2, 0);
      dueFault("x" + name.substring(1) + rest, 2, 0);
      dueFault(name.substring(0, name.length() - 1) + "x" + rest, 2, 0);
      dueFault("word a 1; " + "x" + rest, 2, 10);
      dueFault(name.toUpperCase() + rest, 1, 0);
    }
  }

  // ---- bounds of NAMES and NUMBERS

  /** The NUMBER at the sign # of a line has these bounds. */
  private static void dueNumber(String line, int least, int most) {
    int place = line.indexOf('#');
    dueTaken(line.replace("#", "" + least), 1);
    dueTaken(line.replace("#", "" + most), 1);
    if (least > 0) {
      dueFault(line.replace("#", "" + (least - 1)), 3, place);
    }
    dueFault(line.replace("#", "" + (most + 1)), 3, place);
    dueFault(line.replace("#", "999"), 3, place);
  }

  /** The NAME at the sign # of a line has so many letters. */
  private static void dueName(String line, int least, int most) {
    int place = line.indexOf('#');
    dueTaken(line.replace("#", "a".repeat(least)), 1);
    dueTaken(line.replace("#", "z".repeat(most)), 1);
    if (least > 1) {
      dueFault(line.replace("#", "a".repeat(least - 1)), 3, place);
    }
    dueFault(line.replace("#", "a".repeat(most + 1)), 3, place);
    dueFault(line.replace("#", "a".repeat(300)), 3, place);
  }

  private static void tableLine() {
    says("table: S is a NAME of 25 unlike letters, PLACE by PLACE");
    String all = "abcdefghijklmnopqrstuvwxyz";
    dueTaken("table " + all.substring(0, 25) + ";", 1);
    dueTaken("table " + all.substring(1) + ";", 1);
    dueFault("table " + all.substring(0, 24) + ";", 3, 6);
    dueFault("table " + all + ";", 3, 6);
    dueFault("table a;", 3, 6);
    dueFault("table " + "a".repeat(300) + ";", 3, 6);
    dueFault("table aa" + all.substring(2, 25) + ";", 3, 6);
    dueFault("table " + all.substring(0, 23) + "xx;", 3, 6);
    dueFault("table " + all.substring(0, 24) + "a;", 3, 6);
    dueFault("table " + "a".repeat(25) + ";", 3, 6);
    KnockWall x = told("table zyxwvutsrqponmlkjihgfedcb;");
    due("table(0)", x.table(0), 'z');
    due("table(24)", x.table(24), 'b');
    due("place(a)", x.place('a'), NONE);
  }

  private static void wordLine() {
    says("word: a WORD, 1 to 8 letters, its WEIGHT (1 to 99)");
    dueName("word # 1;", 1, 8);
    dueNumber("word a #;", 1, 99);
    KnockWall x = told("word zzzzzzzz 99;word a 1;");
    due("word(0, 0)", x.word(0, 0), 8);
    due("word(0, 1)", x.word(0, 1), 99);
    due("word(1, 0)", x.word(1, 0), 1);
    due("word(1, 1)", x.word(1, 1), 1);
  }

  private static void shortLine() {
    says("short: a SHORT of 1 to 3 letters for a NAME of 2 to 8 letters");
    dueName("short # ab;", 1, 3);
    dueName("short a #;", 2, 8);
  }

  private static void slipLine() {
    says("slip: of 20, how often a COUNT is heard one less, one more (0 to 9 each; 1 1)");
    dueNumber("slip # 0;", 0, 9);
    dueNumber("slip 0 #;", 0, 9);
    dueNumber("slip # 9;", 0, 9);
    dueNumber("slip 9 #;", 0, 9);
    KnockWall x = told("slip 0 9;");
    due("told(2)", x.told(2), 0);
    due("told(3)", x.told(3), 9);
    code(x, "word a 1;");
    due("told(2) untold", x.told(2), 1);
    due("told(3) untold", x.told(3), 1);
  }

  private static void timeLine() {
    says("time: tenths of a knock, a pause between both COUNTS, a gap between letters (1 to 99 each; 3 6 12)");
    dueNumber("time # 1 1;", 1, 99);
    dueNumber("time 1 # 1;", 1, 99);
    dueNumber("time 1 1 #;", 1, 99);
    KnockWall x = told("time 1 99 50;");
    due("told(4)", x.told(4), 1);
    due("told(5)", x.told(5), 99);
    due("told(6)", x.told(6), 50);
    code(x, "word a 1;");
    due("told(4) untold", x.told(4), 3);
    due("told(5) untold", x.told(5), 6);
    due("told(6) untold", x.told(6), 12);
  }

  private static void guardLine() {
    says("guard: from a MINUTE (0 to 599) on so many (1 to 60)");
    dueNumber("guard # 1;", 0, 599);
    dueNumber("guard # 60;", 0, 599);
    dueNumber("guard 0 #;", 1, 60);
    dueNumber("guard 599 #;", 1, 60);
  }

  // ---- too many, twice

  private static void dueMost(String line, int most) {
    String name = line.substring(0, line.indexOf(' '));
    String all = line.repeat(most);
    dueTaken(all, most);
    dueFault(all + line, 5, all.length());
    dueFault(all + "  " + line, 5, all.length() + 2);
    dueFault(all + name, 5, all.length());
    dueFault(all + name + "?", 5, all.length());
    dueFault(all + name + " 999 999", 5, all.length());
    dueFault(all + "?" + line, 1, all.length());
  }

  private static void tooMany() {
    says("5 the 11th word, the 7th short, the 7th guard (its NAME)");
    dueMost("word a 1;", 10);
    dueMost("short a aa;", 6);
    dueMost("guard 0 1;", 6);
    String all = "word a 1;".repeat(10) + "short a aa;".repeat(6) + "guard 0 1;".repeat(6);
    dueTaken(all, 22);
    dueFault(all + "word", 5, all.length());
    dueFault("word k 1;".repeat(10) + "word a 1;", 5, 90);
  }

  private static void dueOnce(String line) {
    String name = line.substring(0, line.indexOf(' '));
    dueFault(line + line, 4, line.length());
    dueFault(line + " " + line, 4, line.length() + 1);
    dueFault(line + name, 4, line.length());
    dueFault(line + name + "?", 4, line.length());
    dueFault(line + "word a 1;" + line, 4, line.length() + 9);
    dueFault(line + name + " 5000", 4, line.length());
  }

  private static void twice() {
    says("4 table, slip, time for the second time (its NAME)");
    dueOnce("table " + FIRST_TABLE + ";");
    dueOnce("slip 1 1;");
    dueOnce("time 3 6 12;");
    dueTaken("table " + FIRST_TABLE + ";slip 1 1;time 3 6 12;", 3);
    KnockWall x = told("slip 2 2;");
    due("code() of a slip once more", code(x, "slip 3 3;"), 1);
    due("code() behind a FAULT", code(x, "slip 3 3;slip 3 3;") + code(x, "slip 4 4;"), -19 + 1);
  }

  // ---- letters that THE TABLE has not

  private static void lettersBehindAll() {
    says("All letters of WORDS and SHORTS are looked at behind all");
    String noA = "table bcdefghijklmnopqrstuvwxyz;";
    dueTaken("word k 1;short k kk;" + noA, 3);
    dueTaken(noA + "word k 1;short k kk;", 3);
  }

  private static void lettersThatTheTableHasNot() {
    says("Behind all (the length): 6 a letter of a WORD, a SHORT, or what it is for, that THE TABLE has not");
    String noA = "table bcdefghijklmnopqrstuvwxyz;";
    dueFault("word k 1;", 6, 9);
    dueFault("word k 1; ", 6, 10);
    dueFault("word abcdefgk 1;", 6, 16);
    dueFault("word a 1;word k 1;", 6, 18);
    dueFault("word k 1;word a 1;", 6, 18);
    dueFault("short k ab;", 6, 11);
    dueFault("short abk ab;", 6, 13);
    dueFault("short a kb;", 6, 11);
    dueFault("short a abcdefgk;", 6, 17);
    dueFault("word a 1;" + noA, 6, 9 + noA.length());
    dueFault(noA + "word a 1;", 6, 9 + noA.length());
    String most = "word b 1;".repeat(9) + "word a 1;" + "short b bb;".repeat(6) + noA;
    dueFault(most, 6, most.length());
  }

  private static void firstMet() {
    says("FAULTS, the first met as it is read (a TOKEN is read when the one before has been taken)");
    dueFault("word k 1;?", 1, 9);
    dueFault("word k 1;word", 2, 13);
    dueFault("word k 100;", 3, 7);
    dueFault("word a 0?", 3, 7);
    dueFault("word abcdefghi?", 3, 5);
    dueFault("table abc?", 3, 6);
    dueFault("time 0 100 x", 3, 5);
    dueFault("word a 1?word a 0;", 1, 8);
    dueFault("guard 600 61;", 3, 6);
    dueFault("x ?", 2, 0);
    dueFault("5 ?", 2, 0);
  }

  // ---- told, table, place, word, swap

  private static void toldBounds() {
    says(6, "0 WORDS, 1 SHORTS, 2, 3 slip, 4, 5, 6 time, 7 guards. BAD");
    KnockWall x = told("word a 1;word a 1;word a 1;guard 1 1;guard 1 1;");
    dueBounds("told(#)", x::told, 0, 3, 7, 2);
  }

  private static void toldMost() {
    says(6, "0 WORDS, 1 SHORTS, 7 guards");
    KnockWall x = told("word a 1;".repeat(10) + "short a aa;".repeat(6) + "guard 0 1;".repeat(6));
    due("told(0)", x.told(0), 10);
    due("told(1)", x.told(1), 6);
    due("told(7)", x.told(7), 6);
  }

  private static void tableBounds() {
    says(7, "The letter at a PLACE, its byte. BAD");
    dueBounds("table(#)", new KnockWall()::table, 0, 'a', 24, 'z');
  }

  private static void placeBounds() {
    says(8, "The PLACE of a letter (its byte). BAD: no letter");
    KnockWall x = new KnockWall();
    dueBounds("place(#)", x::place, 'a', 0, 'z', 24);
    dueBad("place(#)", x::place, 0, -1, 'A', 'Z', ' ', 'a' + 256, 'a' - 256);
  }

  private static void placeOfNone() {
    says(8, "NONE: THE TABLE has it not");
    due("place(k) at first", new KnockWall().place('k'), NONE);
    KnockWall x = told("table bcdefghijklmnopqrstuvwxyz;");
    dueBounds("place(#)", x::place, 'a', NONE, 'z', 24);
    x = told("table abcdefghijklmnopqrstuvwxy;");
    dueBounds("place(#)", x::place, 'a', 0, 'z', NONE);
  }

  private static void wordBounds() {
    says(9, "there is no such WORD: BAD");
    KnockWall none = new KnockWall();
    dueBad("word(#, 0) without WORDS", w -> none.word(w, 0), -1, 0, 1, LOW, HIGH);
    KnockWall one = told("word b 1;");
    dueBounds("word(#, 10) of one", w -> one.word(w, 10), 0, 'b', 0, 'b');
    KnockWall ten = told("word b 1;".repeat(9) + "word cd 9;");
    dueBounds("word(#, 1) of ten", w -> ten.word(w, 1), 0, 1, 9, 9);
  }

  private static void wordWhat() {
    says(9, "0 how many letters, 1 WEIGHT, 2 KNOCKS; 10 and i: letter i (its byte). BAD");
    KnockWall x = told("word a 7;word abcdefgz 8;");
    dueBounds("word(0, #)", what -> x.word(0, what), 0, 1, 2, 2);
    dueBounds("word(0, #)", what -> x.word(0, what), 10, 'a', 10, 'a');
    dueBounds("word(1, #)", what -> x.word(1, what), 0, 8, 2, 2 + 3 + 4 + 5 + 6 + 3 + 4 + 10);
    dueBounds("word(1, #)", what -> x.word(1, what), 10, 'a', 17, 'z');
    dueBad("word(1, #)", what -> x.word(1, what), LOW + 10, 25);
  }

  private static void swapBounds() {
    says(10, "Two PLACES change their letters: 1; 0, if they are one. BAD");
    KnockWall x = new KnockWall();
    dueBounds("swap(#, 24)", a -> x.swap(a, 24), 0, 1, 24, 0);
    due("table(0)", x.table(0), 'z');
    due("table(24)", x.table(24), 'a');
    dueBounds("swap(0, #)", b -> x.swap(0, b), 0, 0, 24, 1);
    due("the table", tableOf(x), FIRST_TABLE);
    dueBad("swap(#, #)", a -> x.swap(a, a), -1, 25, LOW, HIGH);
    for (int p = 0; p < 25; p++) {
      due("swap(" + p + ", " + p + ")", x.swap(p, p), 0);
    }
    due("the table", tableOf(x), FIRST_TABLE);
  }

  private static void texts() {
    newText();
    newSheets();
    firstTableHasNoK();
    lastCall();
    highestByteFirst();
    feedOfAnyByte();
    feedFull();
    endOfNothing();
    endOfSome();
    endOfAll();
    codeOfNothing();
    codeEmptiesTheTape();
    bytesBehindTheEnd();
    placeOfTheFault();
    whatWasToldStays();
    whatNoLineTells();
    whatEachLineTells();
    whatACodeTakesAway();
    latestFault();
  }

  private static void lines() {
    everyByte();
    numbersOfFigures();
    numbersTooLong();
    asLongAsMayBe();
    blanks();
    noBlanks();
    everyLine();
    theEnd();
    anotherToken();
    noToken();
    namesThatBeginNoLine();
    tableLine();
    wordLine();
    shortLine();
    slipLine();
    timeLine();
    guardLine();
    tooMany();
    twice();
    lettersBehindAll();
    lettersThatTheTableHasNot();
    firstMet();
  }

  private static void askedOfTheText() {
    toldBounds();
    toldMost();
    tableBounds();
    placeBounds();
    placeOfNone();
    wordBounds();
    wordWhat();
    swapBounds();
  }

  public static void main(String[] args) {
    texts();
    lines();
    askedOfTheText();
    close();
  }
}
