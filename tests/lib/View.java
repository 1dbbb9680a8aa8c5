import java.util.function.BiConsumer;

/**
 * All that calls show of an object, as texts. Each kind of view wants an object of its own, since
 * some must change what they look at and an object is used for 512 calls at most.
 */
enum View {
  TAPE(View::tape),
  FAULT((x, out) -> add(out, x.fault())),
  TOLD(View::told),
  TABLE(View::table),
  BEST(View::best),
  HEARD(View::heard),
  CHANCES(View::chances),
  MOUTHS(View::mouths),
  NIGHT(View::night),
  CELLS(View::cells),
  IMAGES(View::images),
  SHEETS((x, out) -> sheets(x, out, 0, 1)),
  MORE_SHEETS((x, out) -> sheets(x, out, 2, 3)),
  TORN((x, out) -> add(out, x.torn()));

  private final BiConsumer<KnockWall, StringBuilder> look;

  View(BiConsumer<KnockWall, StringBuilder> look) {
    this.look = look;
  }

  String of(KnockWall x) {
    StringBuilder out = new StringBuilder();
    look.accept(x, out);
    return out.toString();
  }

  private static void add(StringBuilder out, long answer) {
    out.append(answer).append(' ');
  }

  private static void tape(KnockWall x, StringBuilder out) {
    int size = x.count(4);
    for (int what = 0; what < 7; what++) {
      add(out, x.takes(what));
    }
    for (int n = size; n >= 0; n -= size > 80 ? 8 : 1) {
      add(out, x.end(n));
      add(out, x.wrong());
      add(out, x.takes(2));
    }
    add(out, x.feed(0L));
  }

  private static void told(KnockWall x, StringBuilder out) {
    for (int what = 0; what < 8; what++) {
      add(out, x.told(what));
    }
    for (int w = 0; w < 10; w++) {
      for (int what = 0; what < 18; what += what == 2 ? 8 : 1) {
        add(out, x.word(w, what));
      }
    }
    add(out, x.count(1));
  }

  private static void table(KnockWall x, StringBuilder out) {
    for (int p = 0; p < 25; p++) {
      add(out, x.table(p));
    }
    for (int letter = 'a'; letter <= 'z'; letter++) {
      add(out, x.place(letter));
    }
  }

  private static void best(KnockWall x, StringBuilder out) {
    add(out, x.mean(0));
    add(out, x.mean(1));
    for (int p = 0; p < 25; p++) {
      add(out, x.best(p));
    }
    add(out, x.adopt());
    table(x, out);
  }

  private static void heard(KnockWall x, StringBuilder out) {
    int size = x.count(0);
    add(out, size);
    for (int i = 0; i < 24; i++) {
      add(out, x.heard(i));
    }
    add(out, x.hear(1));
    add(out, x.hush());
  }

  private static void chances(KnockWall x, StringBuilder out) {
    for (int w = 0; w < 10; w++) {
      add(out, x.chance(w, 0));
      for (int n = 1; n <= 3; n++) {
        add(out, x.right(w, n, 0));
        add(out, x.right(w, n, 1));
      }
    }
    add(out, x.chance(0, 1));
    add(out, x.likeliest());
    add(out, x.sure(0));
    add(out, x.sure(1));
    add(out, x.fits());
  }

  private static void mouths(KnockWall x, StringBuilder out) {
    for (int n = 1; n <= 5; n++) {
      for (int as = 1; as <= 5; as++) {
        add(out, x.mouths(n, as, 2, 0));
        add(out, x.mouths(n, as, 2, 1));
      }
    }
    for (int p = 0; p < 25; p++) {
      add(out, x.becomes(p, 2));
      add(out, x.letter(p, 12, 2, 0));
    }
    for (int k = 1; k <= 10; k++) {
      add(out, x.turns(k));
      add(out, x.pipe(k, 1, 0));
    }
  }

  private static void night(KnockWall x, StringBuilder out) {
    add(out, x.count(2));
    int minute = 0;
    for (int turns = 0; turns < 14 && minute >= 0; turns++) {
      minute = x.still(minute, 1 + turns % 2);
      add(out, minute);
    }
    for (int n = 1; n <= 600; n += 20) {
      add(out, x.begin(0, n));
      add(out, x.nights(n));
    }
    add(out, x.longest(0));
    add(out, x.longest(1));
  }

  private static void cells(KnockWall x, StringBuilder out) {
    for (int w = 0; w < 10; w++) {
      add(out, x.knows(w));
    }
    for (int a = 0; a < 11; a++) {
      add(out, x.ask(a, a, 0));
      add(out, x.ask(a, 10 - a, 4));
    }
    for (int what = 0; what < 3; what++) {
      add(out, x.heardBy(what));
      add(out, x.teach(what));
    }
  }

  private static void images(KnockWall x, StringBuilder out) {
    add(out, x.count(3));
    for (int k = 0; k < 2; k++) {
      add(out, x.back(k));
      table(x, out);
      heard(x, out);
      for (int w = 0; w < 10; w++) {
        add(out, x.knows(w));
      }
    }
    add(out, x.keep(0));
    add(out, x.keep(1));
  }

  private static void sheets(KnockWall x, StringBuilder out, int first, int last) {
    add(out, x.count(5));
    for (int k = first; k <= last; k++) {
      int lane = 0;
      for (int as = 0; as < 3; as++) {
        x.hush();
        add(out, x.read(k, as, 0, 1));
        add(out, x.torn());
        lane = x.torn() == 3 ? lane : as;
      }
      for (int i = 0; i < 41; i++) {
        x.hush();
        add(out, x.read(k, lane, i, 1));
        add(out, x.heard(0));
      }
    }
  }
}
