import java.util.EnumMap;
import java.util.EnumSet;
import java.util.Map;
import java.util.function.ToLongFunction;

/** What is refused, and what only asks, changes nothing that another call shows. */
public final class Refusals extends Bench {
  private static final Map<Walls, Map<View, String>> BEFORE = new EnumMap<>(Walls.class);

  private static String before(Walls wall, View view) {
    return BEFORE.computeIfAbsent(wall, w -> new EnumMap<>(View.class))
        .computeIfAbsent(view, v -> v.of(wall.make()));
  }

  /** A call answers as is due, and all views are as ahead of it. */
  private static void leaves(Walls wall, String name, ToLongFunction<KnockWall> call, long want) {
    for (View view : View.values()) {
      KnockWall x = wall.make();
      due(name + " of " + wall, call.applyAsLong(x), want);
      due(view + " of " + wall + " behind " + name, view.of(x), before(wall, view));
    }
  }

  /** A call that answers whatever it does. */
  private static void asks(String name, ToLongFunction<KnockWall> call) {
    for (Walls wall : Walls.values()) {
      leaves(wall, name, call, call.applyAsLong(wall.make()));
    }
  }

  /** On every wall a call with any of these numbers, at the place of its #, is BAD. */
  private static void bad(String name, Numbered call, int... numbers) {
    for (int n : numbers) {
      for (Walls wall : Walls.values()) {
        leaves(wall, name.replace("#", "" + n), x -> call.of(x, n), BAD);
      }
    }
  }

  private interface Numbered {
    long of(KnockWall x, int n);
  }

  private static int[] outside(int least, int most) {
    return new int[] {least - 1, most + 1, LOW, HIGH};
  }

  private static void badOfTheText() {
    bad("end(#)", (x, n) -> x.end(n), outside(0, 320));
    bad("told(#)", (x, n) -> x.told(n), outside(0, 7));
    bad("table(#)", (x, n) -> x.table(n), outside(0, 24));
    bad("place(#)", (x, n) -> x.place(n), outside('a', 'z'));
    bad("word(#, 0)", (x, n) -> x.word(n, 0), outside(0, 9));
    bad("word(0, #)", (x, n) -> x.word(0, n), -1, 3, 9, 18, LOW, HIGH);
    bad("swap(#, 1)", (x, n) -> x.swap(n, 1), outside(0, 24));
    bad("swap(1, #)", (x, n) -> x.swap(1, n), outside(0, 24));
    bad("takes(#)", (x, n) -> x.takes(n), outside(0, 6));
    bad("mean(#)", (x, n) -> x.mean(n), outside(0, 1));
    bad("best(#)", (x, n) -> x.best(n), outside(0, 24));
  }

  private static void badOfHearing() {
    bad("hear(#)", (x, n) -> x.hear(n), outside(0, 6));
    bad("heard(#)", (x, n) -> x.heard(n), outside(0, 23));
    bad("chance(#, 0)", (x, n) -> x.chance(n, 0), outside(0, 9));
    bad("chance(0, #)", (x, n) -> x.chance(0, n), outside(0, 1));
    bad("sure(#)", (x, n) -> x.sure(n), outside(0, 1));
    bad("right(#, 1, 0)", (x, n) -> x.right(n, 1, 0), outside(0, 9));
    bad("right(0, #, 0)", (x, n) -> x.right(0, n, 0), outside(1, 3));
    bad("right(0, 1, #)", (x, n) -> x.right(0, 1, n), outside(0, 1));
    bad("mouths(#, 1, 1, 0)", (x, n) -> x.mouths(n, 1, 1, 0), outside(1, 5));
    bad("mouths(1, #, 1, 0)", (x, n) -> x.mouths(1, n, 1, 0), outside(1, 5));
    bad("mouths(1, 1, #, 0)", (x, n) -> x.mouths(1, 1, n, 0), outside(0, 10));
    bad("mouths(1, 1, 1, #)", (x, n) -> x.mouths(1, 1, 1, n), outside(0, 1));
    bad("letter(#, 1, 1, 0)", (x, n) -> x.letter(n, 1, 1, 0), outside(0, 24));
    bad("letter(1, #, 1, 0)", (x, n) -> x.letter(1, n, 1, 0), outside(0, 24));
    bad("letter(1, 1, #, 0)", (x, n) -> x.letter(1, 1, n, 0), outside(0, 5));
    bad("letter(1, 1, 1, #)", (x, n) -> x.letter(1, 1, 1, n), outside(0, 1));
    bad("becomes(#, 1)", (x, n) -> x.becomes(n, 1), outside(0, 24));
    bad("becomes(1, #)", (x, n) -> x.becomes(1, n), outside(0, 5));
    bad("pipe(#, 1, 0)", (x, n) -> x.pipe(n, 1, 0), outside(1, 10));
    bad("pipe(1, #, 0)", (x, n) -> x.pipe(1, n, 0), outside(0, 20));
    bad("pipe(1, 1, #)", (x, n) -> x.pipe(1, 1, n), outside(0, 1));
    bad("turns(#)", (x, n) -> x.turns(n), outside(1, 10));
  }

  private static void badOfNightAndCells() {
    bad("still(#, 0)", (x, n) -> x.still(n, 0), outside(0, 599));
    bad("still(0, #)", (x, n) -> x.still(0, n), outside(0, 2));
    bad("begin(#, 1)", (x, n) -> x.begin(n, 1), outside(0, 599));
    bad("begin(0, #)", (x, n) -> x.begin(0, n), outside(1, 600));
    bad("nights(#)", (x, n) -> x.nights(n), outside(1, 600));
    bad("longest(#)", (x, n) -> x.longest(n), outside(0, 1));
    bad("teach(#)", (x, n) -> x.teach(n), outside(0, 2));
    bad("said(#, 0, 5)", (x, n) -> x.said(n, 0, 5), outside(0, 9));
    bad("said(0, #, 5)", (x, n) -> x.said(0, n, 5), outside(0, 10));
    bad("said(0, 5, #)", (x, n) -> x.said(0, 5, n), outside(0, 10));
    bad("knows(#)", (x, n) -> x.knows(n), outside(0, 9));
    bad("ask(#, 0, 0)", (x, n) -> x.ask(n, 0, 0), outside(0, 10));
    bad("ask(0, #, 0)", (x, n) -> x.ask(0, n, 0), outside(0, 10));
    bad("ask(0, 0, #)", (x, n) -> x.ask(0, 0, n), outside(0, 2047));
    bad("heardBy(#)", (x, n) -> x.heardBy(n), outside(0, 2));
  }

  private static void badOfSheets() {
    bad("keep(#)", (x, n) -> x.keep(n), outside(0, 1));
    bad("back(#)", (x, n) -> x.back(n), outside(0, 1));
    bad("sheet(#, 0, 1)", (x, n) -> x.sheet(n, 0, 1), outside(0, 3));
    bad("sheet(0, #, 1)", (x, n) -> x.sheet(0, n, 1), outside(0, 2));
    bad("sheet(0, 0, #)", (x, n) -> x.sheet(0, 0, n), 41, HIGH);
    bad("lay(#, 0, 1)", (x, n) -> x.lay(n, 0, 1), outside(0, 3));
    bad("read(#, 0, 0, 1)", (x, n) -> x.read(n, 0, 0, 1), outside(0, 3));
    bad("read(0, #, 0, 1)", (x, n) -> x.read(0, n, 0, 1), outside(0, 2));
    bad("read(0, 0, 0, #)", (x, n) -> x.read(0, 0, 0, n), outside(0, 24));
    bad("count(#)", (x, n) -> x.count(n), outside(0, 5));
  }

  private static void wordsThatAreNot() {
    for (Walls wall : Walls.values()) {
      int words = wall.make().told(0);
      leaves(wall, "word(words, 0)", x -> x.word(words, 0), BAD);
      leaves(wall, "chance(words, 0)", x -> x.chance(words, 0), BAD);
      leaves(wall, "right(words, 1, 0)", x -> x.right(words, 1, 0), BAD);
      leaves(wall, "said(words, 0, 1)", x -> x.said(words, 0, 1), BAD);
      leaves(wall, "knows(words)", x -> x.knows(words), BAD);
      int heard = wall.make().count(0);
      leaves(wall, "heard(those heard)", x -> x.heard(heard), BAD);
      int bytes = wall.make().count(4);
      leaves(wall, "end(bytes and 1)", x -> x.end(bytes + 1), BAD);
    }
  }

  private static void states() {
    leaves(Walls.NEW, "takes(0)", x -> x.takes(0), STATE);
    leaves(Walls.ODD, "takes(5)", x -> x.takes(5), STATE);
    for (Walls wall : EnumSet.of(Walls.NEW, Walls.ODD, Walls.CROWDED)) {
      leaves(wall, "likeliest()", x -> x.likeliest(), STATE);
      leaves(wall, "sure(0)", x -> x.sure(0), STATE);
      leaves(wall, "fits()", x -> x.fits(), STATE);
    }
    leaves(Walls.ODD, "chance(0, 0)", x -> x.chance(0, 0), STATE);
    leaves(Walls.CROWDED, "chance(0, 1)", x -> x.chance(0, 1), STATE);
    leaves(Walls.CROWDED, "right(0, 1, 0)", x -> x.right(0, 1, 0), STATE);
    leaves(Walls.BUSY, "right(1, 2, 1)", x -> x.right(1, 2, 1), STATE);
    leaves(Walls.NEW, "back(0)", x -> x.back(0), STATE);
    leaves(Walls.NEW, "back(1)", x -> x.back(1), STATE);
  }

  private static void fulls() {
    leaves(Walls.CROWDED, "feed(0)", x -> x.feed(0L), FULL);
    leaves(Walls.CROWDED, "hear(0)", x -> x.hear(0), FULL);
    leaves(Walls.CROWDED, "read(0, 0, 0, 1)", x -> x.read(0, 0, 0, 1), FULL);
    leaves(Walls.BUSY, "read(0, 2, 1, 21)", x -> x.read(0, 2, 1, 21), FULL);
  }

  private static void nones() {
    leaves(Walls.NEW, "place(k)", x -> x.place('k'), NONE);
    leaves(Walls.BUSY, "place(a)", x -> x.place('a'), NONE);
    leaves(Walls.NEW, "still(0, 2)", x -> x.still(0, 2), NONE);
    leaves(Walls.BUSY, "still(580, 1)", x -> x.still(580, 1), NONE);
    leaves(Walls.BUSY, "begin(0, 600)", x -> x.begin(0, 600), NONE);
    leaves(Walls.NEW, "ask(0, 0, 0)", x -> x.ask(0, 0, 0), NONE);
    leaves(Walls.BUSY, "ask(0, 10, 0)", x -> x.ask(0, 10, 0), NONE);
    leaves(Walls.NEW, "heardBy(1)", x -> x.heardBy(1), NONE);
    leaves(Walls.NEW, "wrong()", x -> x.wrong(), 0);
    leaves(Walls.NEW, "count(5)", x -> x.count(5), NONE);
  }

  private static void faultsOfSheets() {
    for (Walls wall : Walls.values()) {
      leaves(wall, "sheet(0, 1, -1)", x -> x.sheet(0, 1, -1), -14);
      leaves(wall, "sheet(3, 2, LOW)", x -> x.sheet(3, 2, LOW), -14);
    }
    leaves(Walls.NEW, "lay(0, 0, 3)", x -> x.lay(0, 0, 3), -11);
    leaves(Walls.BUSY, "lay(3, 0, 3)", x -> x.lay(3, 0, 3), -11);
    leaves(Walls.BUSY, "lay(1, 3, 3)", x -> x.lay(1, 3, 3), -12);
    leaves(Walls.BUSY, "lay(1, -1, 3)", x -> x.lay(1, -1, 3), -12);
    leaves(Walls.BUSY, "lay(2, 0, 3)", x -> x.lay(2, 0, 3), -12);
    leaves(Walls.CROWDED, "lay(0, 40, 3)", x -> x.lay(0, 40, 3), -12);
    leaves(Walls.BUSY, "read(1, 1, 0, 3)", x -> x.read(1, 1, 0, 3), -21);
    leaves(Walls.BUSY, "read(1, 1, 1, 9)", x -> x.read(1, 1, 1, 9), -20);
    leaves(Walls.CROWDED, "read(0, 0, 5, 1)", x -> x.read(0, 0, 5, 1), -20);
  }

  private static void refused() {
    says("what is refused changes nothing");
    badOfTheText();
    badOfHearing();
    badOfNightAndCells();
    badOfSheets();
    wordsThatAreNot();
    states();
    fulls();
    nones();
    faultsOfSheets();
  }

  private static void asked() {
    says(11, "A SAYING is what THE TAPE has (it stays)");
    asks("takes(3)", x -> x.takes(3));
    asks("takes(5)", x -> x.takes(5));
    asks("wrong()", x -> x.wrong());
    says("a call that only asks changes nothing");
    asks("fault()", x -> x.fault());
    asks("told(0)", x -> x.told(0));
    asks("table(0)", x -> x.table(0));
    asks("place(a)", x -> x.place('a'));
    asks("word(0, 2)", x -> x.word(0, 2));
    asks("swap(7, 7)", x -> x.swap(7, 7));
    asks("mean(0)", x -> x.mean(0));
    asks("mean(1)", x -> x.mean(1));
    asks("best(0)", x -> x.best(0));
    asks("heard(0)", x -> x.heard(0));
    asks("chance(0, 0)", x -> x.chance(0, 0));
    asks("likeliest()", x -> x.likeliest());
    asks("sure(1)", x -> x.sure(1));
    asks("fits()", x -> x.fits());
    asks("right(3, 3, 0)", x -> x.right(3, 3, 0));
    asks("mouths(3, 2, 10, 0)", x -> x.mouths(3, 2, 10, 0));
    asks("letter(3, 2, 5, 0)", x -> x.letter(3, 2, 5, 0));
    asks("becomes(3, 5)", x -> x.becomes(3, 5));
    asks("pipe(10, 3, 0)", x -> x.pipe(10, 3, 0));
    asks("turns(10)", x -> x.turns(10));
    asks("still(0, 1)", x -> x.still(0, 1));
    asks("begin(0, 60)", x -> x.begin(0, 60));
    asks("nights(7)", x -> x.nights(7));
    asks("longest(1)", x -> x.longest(1));
    asks("teach(2)", x -> x.teach(2));
    asks("knows(0)", x -> x.knows(0));
    asks("ask(3, 4, 0)", x -> x.ask(3, 4, 0));
    asks("heardBy(1)", x -> x.heardBy(1));
    asks("torn()", x -> x.torn());
    asks("count(1)", x -> x.count(1));
  }

  public static void main(String[] args) {
    refused();
    asked();
    close();
  }
}
