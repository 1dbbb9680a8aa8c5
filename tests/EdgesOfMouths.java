/** The edges that the document names from mouth to mouth and on a pipe: promises 24 to 28. */
public final class EdgesOfMouths extends Bench {
  private static void dueMouths(KnockWall x, int n, int as, int m, long top, long bottom) {
    dueFraction("mouths(" + n + ", " + as + ", " + m + ")", what -> x.mouths(n, as, m, what), top, bottom);
  }

  private static void dueLetter(KnockWall x, int place, int as, int m, long top, long bottom) {
    dueFraction("letter(" + place + ", " + as + ", " + m + ")", what -> x.letter(place, as, m, what), top, bottom);
  }

  private static void duePipe(KnockWall x, int k, int p, long top, long bottom) {
    dueFraction("pipe(" + k + ", " + p + ")", what -> x.pipe(k, p, what), top, bottom);
  }

  // ---- mouths

  private static void mouthsBounds() {
    says(24, "a COUNT (1 to 5) is said as another one (1 to 5) behind m walls (0 to 10): 0, 1. BAD");
    KnockWall x = told("slip 2 3;");
    dueBounds("mouths(#, 1, 1, 0)", n -> x.mouths(n, 1, 1, 0), 1, 17, 5, 0);
    dueBounds("mouths(1, #, 1, 1)", as -> x.mouths(1, as, 1, 1), 1, 20, 5, 1);
    dueBounds("mouths(1, 1, #, 1)", m -> x.mouths(1, 1, m, 1), 0, 1, 10, 2048000000000L);
    dueBounds("mouths(1, 1, 1, #)", what -> x.mouths(1, 1, 1, what), 0, 17, 1, 20);
  }

  private static void noWall() {
    says(24, "behind m walls (0)");
    KnockWall x = told("slip 9 9;");
    for (int n = 1; n <= 5; n++) {
      for (int as = 1; as <= 5; as++) {
        dueMouths(x, n, as, 0, n == as ? 1 : 0, 1);
      }
    }
  }

  private static void leastAndGreatestCount() {
    says("BY MOUTHS: each one says on the COUNT heard, but 0 as 1, 6 as 5");
    KnockWall x = told("slip 2 3;");
    dueMouths(x, 1, 1, 1, 17, 20);
    dueMouths(x, 1, 2, 1, 3, 20);
    dueMouths(x, 1, 3, 1, 0, 1);
    dueMouths(x, 2, 1, 1, 1, 10);
    dueMouths(x, 2, 2, 1, 3, 4);
    dueMouths(x, 4, 5, 1, 3, 20);
    dueMouths(x, 5, 5, 1, 9, 10);
    dueMouths(x, 5, 4, 1, 1, 10);
    dueMouths(x, 5, 3, 1, 0, 1);
  }

  private static void throughAllWalls() {
    says(24, "behind m walls (10)");
    KnockWall x = new KnockWall();
    dueMouths(x, 1, 1, 10, 3407169672289L, 5120000000000L);
    dueMouths(x, 5, 5, 10, 3407169672289L, 5120000000000L);
    dueMouths(x, 1, 5, 10, 8259559797L, 10240000000000L);
    dueMouths(x, 5, 1, 10, 8259559797L, 10240000000000L);
    dueMouths(x, 1, 5, 3, 0, 1);
    dueMouths(x, 1, 5, 4, 1, 160000);
  }

  private static void leastAndGreatestSlip() {
    says("slip: of 20 (0 to 9 each)");
    KnockWall x = told("slip 0 0;");
    dueMouths(x, 4, 4, 10, 1, 1);
    dueMouths(x, 4, 3, 10, 0, 1);
    x = told("slip 9 9;");
    dueMouths(x, 3, 3, 10, 1669917323L, 8192000000L);
    x = told("slip 0 9;");
    dueMouths(x, 1, 1, 10, 25937424601L, 10240000000000L);
    dueMouths(x, 1, 5, 10, 1878942860721L, 2560000000000L);
    dueMouths(x, 5, 5, 10, 1, 1);
    dueMouths(x, 5, 4, 10, 0, 1);
    x = told("slip 9 0;");
    dueMouths(x, 1, 1, 10, 1, 1);
    dueMouths(x, 1, 2, 10, 0, 1);
  }

  // ---- letter, becomes

  private static void letterBounds() {
    says(25, "the letter at a PLACE is that at another one behind m walls (0 to 5): 0, 1. BAD");
    KnockWall x = told("slip 2 3;");
    dueBounds("letter(#, 0, 1, 0)", place -> x.letter(place, 0, 1, 0), 0, 289, 24, 0);
    dueBounds("letter(24, #, 1, 0)", as -> x.letter(24, as, 1, 0), 0, 0, 24, 81);
    dueBounds("letter(0, 0, #, 1)", m -> x.letter(0, 0, m, 1), 0, 1, 5, 10240000000000L);
    dueBounds("letter(0, 0, 1, #)", what -> x.letter(0, 0, 1, what), 0, 289, 1, 400);
    dueLetter(x, 0, 0, 5, 2848361668681L, 10240000000000L);
  }

  private static void letterCorners() {
    says(25, "PLACES 0 to 24 (ROW: by 5; COLUMN: modulo 5)");
    KnockWall x = new KnockWall();
    dueLetter(x, 0, 24, 3, 0, 1);
    dueLetter(x, 0, 24, 4, 1, 25600000000L);
    dueLetter(x, 24, 0, 4, 1, 25600000000L);
    dueLetter(x, 0, 24, 5, 529, 640000000000L);
    dueLetter(x, 24, 24, 5, 1614625121041L, 2560000000000L);
    dueLetter(x, 4, 5, 1, 0, 1);
    dueLetter(x, 4, 20, 3, 0, 1);
    dueLetter(x, 4, 20, 4, 1, 25600000000L);
    for (int place = 0; place < 25; place++) {
      for (int as = 0; as < 25; as += 6) {
        due("letter(" + place + ", " + as + ", 0, 0)", x.letter(place, as, 0, 0), place == as ? 1 : 0);
      }
    }
  }

  private static void becomesBounds() {
    says(26, "The PLACE that the letter at a PLACE has become likeliest behind m walls (0 to 5). BAD");
    KnockWall x = told("slip 0 9;");
    dueBounds("becomes(#, 5)", place -> x.becomes(place, 5), 0, 12, 24, 24);
    dueBounds("becomes(0, #)", m -> x.becomes(0, m), 0, 0, 5, 12);
    code(x, "slip 9 0;");
    dueBounds("becomes(#, 5)", place -> x.becomes(place, 5), 0, 0, 24, 12);
    for (int place = 0; place < 25; place++) {
      due("becomes(" + place + ", 0)", x.becomes(place, 0), place);
    }
  }

  private static void becomesOfSeveral() {
    says(26, "of several the least");
    KnockWall x = told("slip 9 9;");
    due("becomes(12, 1)", x.becomes(12, 1), 6);
    due("becomes(6, 1)", x.becomes(6, 1), 0);
    due("becomes(18, 1)", x.becomes(18, 1), 12);
    due("becomes(0, 1)", x.becomes(0, 1), 0);
    due("becomes(24, 1)", x.becomes(24, 1), 24);
    due("becomes(12, 5)", x.becomes(12, 5), 6);
    due("becomes(0, 5)", x.becomes(0, 5), 0);
    due("becomes(24, 5)", x.becomes(24, 5), 24);
  }

  // ---- pipe, turns

  private static void pipeBounds() {
    says(27, "A PIPE of k CELLS (1 to 10), p (0 to 20): that it gets through in a minute: 0, 1. BAD");
    KnockWall x = new KnockWall();
    dueBounds("pipe(#, 1, 0)", k -> x.pipe(k, 1, 0), 1, 1, 10, 322687697779L);
    dueBounds("pipe(#, 1, 1)", k -> x.pipe(k, 1, 1), 1, 20, 10, 1024000000000L);
    dueBounds("pipe(1, #, 0)", p -> x.pipe(1, p, 0), 0, 0, 20, 1);
    dueBounds("pipe(1, 1, #)", what -> x.pipe(1, 1, what), 0, 1, 1, 20);
  }

  private static void pipeEdges() {
    says("it gets through, if just one does");
    KnockWall x = new KnockWall();
    for (int k = 1; k <= 10; k++) {
      duePipe(x, k, 0, 0, 1);
      duePipe(x, k, 20, k == 1 ? 1 : 0, 1);
    }
    duePipe(x, 1, 19, 19, 20);
    duePipe(x, 2, 1, 19, 200);
    duePipe(x, 2, 19, 19, 200);
    duePipe(x, 10, 2, 387420489, 1000000000);
    duePipe(x, 10, 19, 19, 1024000000000L);
  }

  private static void turnsBounds() {
    says(28, "The p by which most gets through with k CELLS, of several the least. BAD");
    KnockWall x = new KnockWall();
    dueBounds("turns(#)", x::turns, 1, 20, 10, 2);
    int[] want = {20, 10, 7, 5, 4, 3, 3, 3, 2, 2};
    for (int k = 1; k <= 10; k++) {
      due("turns(" + k + ")", x.turns(k), want[k - 1]);
    }
  }

  public static void main(String[] args) {
    mouthsBounds();
    noWall();
    leastAndGreatestCount();
    throughAllWalls();
    leastAndGreatestSlip();
    letterBounds();
    letterCorners();
    becomesBounds();
    becomesOfSeveral();
    pipeBounds();
    pipeEdges();
    turnsBounds();
    close();
  }
}
