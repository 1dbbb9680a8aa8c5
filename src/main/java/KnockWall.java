import java.util.Arrays;

/**
 * Knocks through a wall: a table of five by five letters, words that are likely, what is heard of
 * them, guards, cells and sheets. The words in capitals are those of the document's "Terms".
 */
public final class KnockWall {
  public static final int BAD = -1, STATE = -2, FULL = -3, NONE = -4;

  private static final int SIDE = 5, PLACES = 25, ALPHABET = 26;
  private static final int TAPE_MOST = 320;
  private static final int WORDS_MOST = 10, SHORTS_MOST = 6, GUARDS_MOST = 6;
  private static final int NAME_MOST = 8, SHORT_MOST = 3;
  private static final int COUNT_MOST = 6, HEARD_MOST = 24, WEIGHED_MOST = 12;
  private static final int TIMES_MOST = 3, SENT_LETTERS_MOST = 3;
  private static final int OF = 20;
  private static final int COUNT_WALLS_MOST = 10, LETTER_WALLS_MOST = 5, PIPE_MOST = 10;
  private static final int MINUTES = 600;
  private static final int CELLS = 11, IMAGES = 2;
  private static final int SHEETS = 4, LANES = 3, SHEET_MOST = 40;
  private static final int FAULT_NULL = 1, FAULT_INDEX = 2, FAULT_CAST = 3, FAULT_SIZE = 4;

  /** More than any choice of WORDS comes to in leastLesson. */
  private static final long NO_LESSON = 1L << 40;

  /** PLACES by ROW and COLUMN together, the least first, of several the least PLACE. */
  private static final int[] CHEAPEST = {
    0, 1, 5, 2, 6, 10, 3, 7, 11, 15, 4, 8, 12, 16, 20, 9, 13, 17, 21, 14, 18, 22, 19, 23, 24
  };

  private final Tape tape = new Tape();
  private final Reader reader = new Reader();
  private final Image now = new Image();
  private final Image[] images = new Image[IMAGES];
  private final Sheet[] sheets = new Sheet[SHEETS];
  private final Saying saying = new Saying();
  private final Tongue tongue = new Tongue();
  private final Hearing hearing = new Hearing();
  private final Mouths mouth = new Mouths();
  private final int[] wordKnocks = new int[WORDS_MOST];
  private Code plan = new Code();
  /** A code is read into this one, so that a FAULT leaves what was told. */
  private Code spare = new Code();
  private int latestFault;
  private int latestTorn;

  public KnockWall() {
    for (int k = 0; k < IMAGES; k++) {
      images[k] = new Image();
    }
    for (int k = 0; k < SHEETS; k++) {
      sheets[k] = new Sheet();
    }
    plan.clear();
    now.startWith(plan.letters);
  }

  // ---- the text

  public int feed(long v) {
    return tape.append(v) ? tape.size : FULL;
  }

  public int end(int n) {
    if (n < 0 || n > tape.size) {
      return BAD;
    }
    int had = tape.size;
    tape.size = n;
    return had;
  }

  public int code() {
    spare.clear();
    int lines = reader.readLines(tape, spare);
    latestFault = reader.kind;
    tape.size = 0;
    if (reader.kind != 0) {
      return -10 - reader.where;
    }
    Code before = plan;
    plan = spare;
    spare = before;
    now.startWith(plan.letters);
    for (int k = 0; k < IMAGES; k++) {
      images[k].kept = false;
    }
    return lines;
  }

  public int fault() {
    return latestFault;
  }

  public int told(int what) {
    switch (what) {
      case 0: return plan.words.size;
      case 1: return plan.shorts.size;
      case 2: return plan.less;
      case 3: return plan.more;
      case 4: return plan.knock;
      case 5: return plan.pause;
      case 6: return plan.gap;
      case 7: return plan.guards;
      default: return BAD;
    }
  }

  public int table(int place) {
    return isPlace(place) ? now.letters[place] : BAD;
  }

  public int place(int letter) {
    if (letter < 'a' || letter > 'z') {
      return BAD;
    }
    int found = now.placeOf(letter);
    return found < 0 ? NONE : found;
  }

  public int word(int w, int what) {
    if (!isWord(w)) {
      return BAD;
    }
    int length = plan.words.lengthOf(w);
    switch (what) {
      case 0: return length;
      case 1: return plan.weights[w];
      case 2: return now.knocksOfName(plan.words, w);
      default: return what >= 10 && what - 10 < length ? plan.words.letterAt(w, what - 10) : BAD;
    }
  }

  public int swap(int a, int b) {
    if (!isPlace(a) || !isPlace(b)) {
      return BAD;
    }
    if (a == b) {
      return 0;
    }
    byte first = now.letters[a];
    now.put(a, now.letters[b]);
    now.put(b, first);
    return 1;
  }

  // ---- sayings

  public int takes(int what) {
    if (what < 0 || what > 6) {
      return BAD;
    }
    if (tape.firstWrong(now) >= 0) {
      return STATE;
    }
    saying.measure(tape, plan, now);
    switch (what) {
      case 0: return saying.letters;
      case 1: return saying.names;
      case 2: return saying.knocks;
      case 3: return saying.time;
      case 4: return saying.shortKnocks;
      case 5: return saying.shortTime;
      default: return saying.shortNames;
    }
  }

  public int wrong() {
    int where = tape.firstWrong(now);
    return where < 0 ? NONE : where;
  }

  public int mean(int what) {
    if (what != 0 && what != 1) {
      return BAD;
    }
    tongue.learn(plan, now);
    return what == 0 ? tongue.meanBy(now.letters) : tongue.meanBy(tongue.ideal);
  }

  public int best(int place) {
    if (!isPlace(place)) {
      return BAD;
    }
    tongue.learn(plan, now);
    return tongue.ideal[place];
  }

  public int adopt() {
    tongue.learn(plan, now);
    int others = 0;
    for (int p = 0; p < PLACES; p++) {
      if (now.letters[p] != tongue.ideal[p]) {
        others++;
      }
    }
    for (int p = 0; p < PLACES; p++) {
      now.put(p, tongue.ideal[p]);
    }
    return others;
  }

  // ---- what is heard

  public int hear(int n) {
    if (!isHearable(n)) {
      return BAD;
    }
    if (now.heardSize >= HEARD_MOST) {
      return FULL;
    }
    now.heardCounts[now.heardSize] = n;
    now.heardSize++;
    return now.heardSize;
  }

  public int hush() {
    int were = now.heardSize;
    now.heardSize = 0;
    return were;
  }

  public int heard(int i) {
    return i >= 0 && i < now.heardSize ? now.heardCounts[i] : BAD;
  }

  public long chance(int w, int what) {
    if (!isWord(w) || !isHalf(what)) {
      return BAD;
    }
    if (!canWeigh()) {
      return STATE;
    }
    hearing.weigh(plan, now);
    return what == 0 ? hearing.chances[w] : hearing.total;
  }

  public int likeliest() {
    if (!canWeigh()) {
      return STATE;
    }
    hearing.weigh(plan, now);
    return hearing.top < 0 ? NONE : hearing.top;
  }

  public long sure(int what) {
    if (!isHalf(what)) {
      return BAD;
    }
    if (!canWeigh()) {
      return STATE;
    }
    hearing.weigh(plan, now);
    if (hearing.top < 0) {
      return NONE;
    }
    return lowest(hearing.chances[hearing.top], hearing.total, what);
  }

  public int fits() {
    if (!canWeigh()) {
      return STATE;
    }
    hearing.weigh(plan, now);
    int bits = 0;
    for (int w = 0; w < plan.words.size; w++) {
      if (hearing.chances[w] > 0) {
        bits |= 1 << w;
      }
    }
    return bits;
  }

  public long right(int w, int n, int what) {
    if (!isWord(w) || n < 1 || n > TIMES_MOST || !isHalf(what)) {
      return BAD;
    }
    int sent = plan.words.lengthOf(w) * n;
    if (sent > SENT_LETTERS_MOST) {
      return STATE;
    }
    long good = hearing.readRight(plan, now, w, n);
    return lowest(good, plan.weights[w] * power(OF, 2 * sent), what);
  }

  // ---- from mouth to mouth, on a pipe

  public long mouths(int n, int as, int m, int what) {
    if (!isKnockable(n) || !isKnockable(as) || m < 0 || m > COUNT_WALLS_MOST || !isHalf(what)) {
      return BAD;
    }
    mouth.pass(plan, n, m);
    return lowest(mouth.ways[as - 1], power(OF, m), what);
  }

  public long letter(int place, int as, int m, int what) {
    if (!isPlace(place) || !isPlace(as) || m < 0 || m > LETTER_WALLS_MOST || !isHalf(what)) {
      return BAD;
    }
    mouth.pass(plan, place / SIDE + 1, m);
    long row = mouth.ways[as / SIDE];
    mouth.pass(plan, place % SIDE + 1, m);
    long column = mouth.ways[as % SIDE];
    return lowest(row * column, power(OF, 2 * m), what);
  }

  public int becomes(int place, int m) {
    if (!isPlace(place) || m < 0 || m > LETTER_WALLS_MOST) {
      return BAD;
    }
    // ROW and COLUMN slip apart from each other, so the likeliest PLACE has the likeliest of both.
    mouth.pass(plan, place / SIDE + 1, m);
    int row = mouth.mostWays();
    mouth.pass(plan, place % SIDE + 1, m);
    return SIDE * row + mouth.mostWays();
  }

  public long pipe(int k, int p, int what) {
    if (k < 1 || k > PIPE_MOST || p < 0 || p > OF || !isHalf(what)) {
      return BAD;
    }
    return lowest(justOne(k, p), power(OF, k), what);
  }

  public int turns(int k) {
    if (k < 1 || k > PIPE_MOST) {
      return BAD;
    }
    int found = 0;
    long most = 0;
    for (int p = 1; p <= OF; p++) {
      long ways = justOne(k, p);
      if (ways > most) {
        found = p;
        most = ways;
      }
    }
    return found;
  }

  // ---- guards

  public int still(int minute, int what) {
    if (!isMinute(minute) || what < 0 || what > 2) {
      return BAD;
    }
    if (what == 0) {
      return plan.night.watched[minute];
    }
    int found = plan.night.firstFrom(minute, what - 1);
    return found < 0 ? NONE : found;
  }

  public int begin(int minute, int n) {
    if (!isMinute(minute) || !isRowLength(n)) {
      return BAD;
    }
    int found = plan.night.firstRow(minute, n);
    return found < 0 ? NONE : found;
  }

  public int nights(int n) {
    return isRowLength(n) ? plan.night.rowsHeld(n) : BAD;
  }

  public int longest(int what) {
    if (!isHalf(what)) {
      return BAD;
    }
    int length = plan.night.longestRow();
    if (what == 0) {
      return length;
    }
    return length == 0 ? NONE : plan.night.firstRow(0, length);
  }

  // ---- one who is new, one who is false

  public int teach(int what) {
    if (what < 0 || what > 2) {
      return BAD;
    }
    for (int w = 0; w < plan.words.size; w++) {
      wordKnocks[w] = now.knocksOfName(plan.words, w);
    }
    long lesson = leastLesson(plan.words, wordKnocks, 0, plan.words.allLetters(), 0);
    int bits = (int) (lesson & 1023);
    switch (what) {
      case 0: return (int) (lesson >> 20);
      case 1: return Integer.bitCount(bits);
      default: return bits;
    }
  }

  public int said(int w, int a, int b) {
    if (!isWord(w) || !isCell(a) || !isCell(b)) {
      return BAD;
    }
    for (int c = Math.min(a, b); c <= Math.max(a, b); c++) {
      now.knowers[w] |= 1 << c;
    }
    return Integer.bitCount(now.knowers[w]);
  }

  public int knows(int w) {
    return isWord(w) ? now.knowers[w] : BAD;
  }

  public int ask(int a, int b, int others) {
    if (!isCell(a) || !isCell(b) || others < 0 || others >= 1 << CELLS) {
      return BAD;
    }
    int both = 1 << a | 1 << b;
    int found = NONE;
    int fewest = 0;
    for (int w = 0; w < plan.words.size; w++) {
      int knowers = now.knowers[w];
      if ((knowers & both) != both || (knowers & others) != 0) {
        continue;
      }
      int knocks = now.knocksOfName(plan.words, w);
      if (found == NONE || knocks < fewest) {
        found = w;
        fewest = knocks;
      }
    }
    return found;
  }

  public int heardBy(int what) {
    if (what < 0 || what > 2) {
      return BAD;
    }
    int anyWord = 0;
    int most = NONE;
    int byMany = 0;
    for (int w = 0; w < plan.words.size; w++) {
      anyWord |= now.knowers[w];
      int many = Integer.bitCount(now.knowers[w]);
      if (most == NONE || many > byMany) {
        most = w;
        byMany = many;
      }
    }
    switch (what) {
      case 0: return CELLS - Integer.bitCount(anyWord);
      case 1: return most;
      default: return byMany;
    }
  }

  // ---- images, sheets

  public int keep(int k) {
    if (!isImage(k)) {
      return BAD;
    }
    int was = images[k].kept ? 1 : 0;
    images[k].copyFrom(now);
    images[k].kept = true;
    return was;
  }

  public int back(int k) {
    if (!isImage(k)) {
      return BAD;
    }
    if (!images[k].kept) {
      return STATE;
    }
    now.copyFrom(images[k]);
    return now.heardSize;
  }

  public int sheet(int k, int lane, int n) {
    if (!isSheet(k) || !isLane(lane) || n > SHEET_MOST) {
      return BAD;
    }
    if (n < 0) {
      return -10 - FAULT_SIZE;
    }
    sheets[k].renew(lane, n);
    return 1;
  }

  public int lay(int k, int i, int v) {
    if (!isSheet(k)) {
      return BAD;
    }
    int fault = sheets[k].faultAt(i);
    if (fault != 0) {
      return -10 - fault;
    }
    sheets[k].put(i, v);
    return 1;
  }

  public int read(int k, int lane, int f, int n) {
    if (!isSheet(k) || !isLane(lane) || n < 0 || n > HEARD_MOST) {
      return BAD;
    }
    Sheet from = sheets[k];
    int fault = 0;
    int came = 0;
    for (int i = 0; i < n; i++) {
      fault = from.faultOf(lane, f + i);
      if (fault != 0) {
        break;
      }
      int count = from.cellAt(f + i);
      if (!isHearable(count)) {
        return -20 - i;
      }
      if (now.heardSize + i >= HEARD_MOST) {
        return FULL;
      }
      // Beyond heardSize nothing is HEARD yet, so a refusal later on leaves no trace.
      now.heardCounts[now.heardSize + i] = count;
      came++;
    }
    now.heardSize += came;
    latestTorn = fault;
    return came;
  }

  public int torn() {
    return latestTorn;
  }

  public int count(int what) {
    switch (what) {
      case 0: return now.heardSize;
      case 1: return Integer.bitCount(plan.words.allLetters());
      case 2: return plan.night.watchedMinutes();
      case 3: return imagesKept();
      case 4: return tape.size;
      case 5: return sheets[0].lane < 0 ? NONE : sheets[0].size;
      default: return BAD;
    }
  }

  // ---- what numbers may be

  private boolean isWord(int w) {
    return w >= 0 && w < plan.words.size;
  }

  private boolean canWeigh() {
    int size = now.heardSize;
    return size > 0 && size % 2 == 0 && size <= WEIGHED_MOST;
  }

  private static boolean isPlace(int p) {
    return p >= 0 && p < PLACES;
  }

  private static boolean isHalf(int what) {
    return what == 0 || what == 1;
  }

  private static boolean isHearable(int n) {
    return n >= 0 && n <= COUNT_MOST;
  }

  private static boolean isKnockable(int n) {
    return n >= 1 && n <= SIDE;
  }

  private static boolean isMinute(int minute) {
    return minute >= 0 && minute < MINUTES;
  }

  private static boolean isRowLength(int n) {
    return n >= 1 && n <= MINUTES;
  }

  private static boolean isCell(int c) {
    return c >= 0 && c < CELLS;
  }

  private static boolean isImage(int k) {
    return k >= 0 && k < IMAGES;
  }

  private static boolean isSheet(int k) {
    return k >= 0 && k < SHEETS;
  }

  private static boolean isLane(int lane) {
    return lane >= 0 && lane < LANES;
  }

  // ---- sums

  private int imagesKept() {
    int kept = 0;
    for (int k = 0; k < IMAGES; k++) {
      if (images[k].kept) {
        kept++;
      }
    }
    return kept;
  }

  /** Of OF to the k ways of a minute: those in which just one of k CELLS begins. */
  private static long justOne(int k, int p) {
    return k * p * power(OF - p, k - 1);
  }

  private static long power(long base, int times) {
    long product = 1;
    for (int i = 0; i < times; i++) {
      product *= base;
    }
    return product;
  }

  /** One number of the fraction in lowest terms; top is not below 0, bottom above 0. */
  private static long lowest(long top, long bottom, int what) {
    long a = bottom;
    long b = top;
    // Euclid's steps on two longs are fewer than 100.
    for (int i = 0; i < 100 && b != 0; i++) {
      long rest = a % b;
      a = b;
      b = rest;
    }
    if (a <= 0) {
      return what == 0 ? top : bottom;
    }
    return what == 0 ? top / a : bottom / a;
  }

  /**
   * The least choice among the WORDS from w on that brings all letters still missing: KNOCKS, how
   * many WORDS and their bits stand in one number, so that the least number is the choice wanted.
   */
  private static long leastLesson(Names words, int[] knocks, int w, int missing, long chosen) {
    if (missing == 0) {
      return chosen;
    }
    if (w >= words.size || w >= WORDS_MOST) {
      return NO_LESSON;
    }
    long without = leastLesson(words, knocks, w + 1, missing, chosen);
    int letters = words.masks[w];
    // A WORD that brings nothing new costs KNOCKS for nothing.
    if ((letters & missing) == 0) {
      return without;
    }
    long more = ((long) knocks[w] << 20) + (1 << 12) + (1 << w);
    return Math.min(without, leastLesson(words, knocks, w + 1, missing & ~letters, chosen + more));
  }

  // ---- the parts

  /** THE TAPE, and its TOKENS one by one. */
  private static final class Tape {
    static final int TOKEN_NONE = 0, TOKEN_END = 1;
    static final int TOKEN_NAME = 2, TOKEN_NUMBER = 3, TOKEN_SIGN = 4;

    final byte[] bytes = new byte[TAPE_MOST];
    int size;
    int at;
    int token;
    int from;
    int value;

    boolean append(long eight) {
      if (size + 8 > TAPE_MOST) {
        return false;
      }
      for (int i = 0; i < 8; i++) {
        bytes[size + i] = (byte) (eight >> (56 - 8 * i));
      }
      size += 8;
      return true;
    }

    /** Reads the TOKEN at the next byte that is no blank: token, from, at behind it, value. */
    void nextToken() {
      while (at < size && bytes[at] == ' ') {
        at++;
      }
      from = at;
      if (at >= size) {
        token = TOKEN_END;
      } else if (bytes[at] == ';') {
        token = TOKEN_SIGN;
        at++;
      } else if (isLetter(bytes[at])) {
        token = TOKEN_NAME;
        while (at < size && isLetter(bytes[at])) {
          at++;
        }
      } else {
        nextNumber();
      }
    }

    private void nextNumber() {
      value = 0;
      while (at < size && bytes[at] >= '0' && bytes[at] <= '9') {
        // Of a NUMBER that is too long the value does not matter: it only must not run over.
        value = (10 * value + bytes[at] - '0') % 1000;
        at++;
      }
      token = at > from && at - from <= 3 ? TOKEN_NUMBER : TOKEN_NONE;
    }

    boolean isName(String text) {
      if (at - from != text.length()) {
        return false;
      }
      for (int i = 0; i < text.length(); i++) {
        if (bytes[from + i] != text.charAt(i)) {
          return false;
        }
      }
      return true;
    }

    /** The first place by which it is no SAYING, or -1. */
    int firstWrong(Image now) {
      boolean empty = true;
      for (int i = 0; i < size; i++) {
        if (bytes[i] != ' ') {
          if (now.placeOf(bytes[i]) < 0) {
            return i;
          }
          empty = false;
        }
      }
      return empty ? size : -1;
    }

    static boolean isLetter(int sign) {
      return sign >= 'a' && sign <= 'z';
    }
  }

  /** Some NAMES, each with its letters and, as bits from a on, which letters these are. */
  private static final class Names {
    final int most;
    final int width;
    final byte[] letters;
    final int[] lengths;
    final int[] masks;
    int size;

    Names(int most, int width) {
      this.most = most;
      this.width = width;
      letters = new byte[most * width];
      lengths = new int[most];
      masks = new int[most];
    }

    /** Adds the NAME that the tape has just read; one that is too long or too many is not taken. */
    void add(Tape tape) {
      int length = tape.at - tape.from;
      if (size >= most || length < 0 || length > width) {
        return;
      }
      int mask = 0;
      for (int j = 0; j < length; j++) {
        byte letter = tape.bytes[tape.from + j];
        letters[size * width + j] = letter;
        mask |= 1 << (letter - 'a');
      }
      lengths[size] = length;
      masks[size] = mask;
      size++;
    }

    int lengthOf(int i) {
      return i >= 0 && i < size ? lengths[i] : 0;
    }

    int letterAt(int i, int j) {
      return j >= 0 && j < lengthOf(i) ? letters[i * width + j] : 0;
    }

    int allLetters() {
      int mask = 0;
      for (int i = 0; i < size; i++) {
        mask |= masks[i];
      }
      return mask;
    }

    /** The first that is, letter by letter, the tape's bytes from there on, or -1. */
    int firstLike(Tape tape, int from, int length) {
      for (int i = 0; i < size; i++) {
        if (lengths[i] == length && isLike(i, tape, from)) {
          return i;
        }
      }
      return -1;
    }

    private boolean isLike(int i, Tape tape, int from) {
      for (int j = 0; j < lengths[i]; j++) {
        if (letters[i * width + j] != tape.bytes[from + j]) {
          return false;
        }
      }
      return true;
    }
  }

  /** What the lines of a code tell. */
  private static final class Code {
    final byte[] letters = new byte[PLACES];
    final Names words = new Names(WORDS_MOST, NAME_MOST);
    final int[] weights = new int[WORDS_MOST];
    final Names shorts = new Names(SHORTS_MOST, SHORT_MOST);
    final Names longs = new Names(SHORTS_MOST, NAME_MOST);
    final Night night = new Night();
    int guards;
    int less;
    int more;
    int knock;
    int pause;
    int gap;
    boolean tableTold;
    boolean slipTold;
    boolean timeTold;

    /** All as at first. */
    void clear() {
      for (int p = 0; p < PLACES; p++) {
        letters[p] = (byte) (p < 10 ? 'a' + p : 'b' + p);
      }
      words.size = 0;
      shorts.size = 0;
      longs.size = 0;
      guards = 0;
      night.clear();
      less = 1;
      more = 1;
      knock = 3;
      pause = 6;
      gap = 12;
      tableTold = false;
      slipTold = false;
      timeTold = false;
    }

    /** How many of OF times a COUNT is heard off by so much. */
    int slips(int off) {
      switch (off) {
        case -1: return less;
        case 0: return OF - less - more;
        case 1: return more;
        default: return 0;
      }
    }

    /** Takes the NAME just read as THE TABLE: whether it is 25 unlike letters. */
    boolean takeTable(Tape tape) {
      if (tape.at - tape.from != PLACES) {
        return false;
      }
      for (int p = 0; p < PLACES; p++) {
        letters[p] = tape.bytes[tape.from + p];
      }
      return Integer.bitCount(tableLetters()) == PLACES;
    }

    /** Whether THE TABLE has every letter of WORDS, SHORTS and what these are for. */
    boolean hasAllLetters() {
      int used = words.allLetters() | shorts.allLetters() | longs.allLetters();
      return (used & ~tableLetters()) == 0;
    }

    private int tableLetters() {
      int mask = 0;
      for (int p = 0; p < PLACES; p++) {
        mask |= 1 << (letters[p] - 'a');
      }
      return mask;
    }
  }

  /** Reads the lines of THE TAPE; kind is the FAULT met first (0: none), where its place. */
  private static final class Reader {
    int kind;
    int where;

    int readLines(Tape tape, Code into) {
      kind = 0;
      where = 0;
      tape.at = 0;
      int lines = 0;
      // A line has bytes of its own: there are never more lines than bytes.
      while (lines < TAPE_MOST) {
        tape.nextToken();
        if (tape.token == Tape.TOKEN_END || !takeLine(tape, into)) {
          break;
        }
        lines++;
      }
      if (kind == 0 && !into.hasAllLetters()) {
        fail(6, tape.size);
      }
      return lines;
    }

    private boolean takeLine(Tape tape, Code into) {
      if (!isToken(tape, Tape.TOKEN_NAME)) {
        return false;
      }
      if (tape.isName("table")) {
        return takeTableLine(tape, into);
      }
      if (tape.isName("word")) {
        return takeWordLine(tape, into);
      }
      if (tape.isName("short")) {
        return takeShortLine(tape, into);
      }
      if (tape.isName("slip")) {
        return takeSlipLine(tape, into);
      }
      if (tape.isName("time")) {
        return takeTimeLine(tape, into);
      }
      if (tape.isName("guard")) {
        return takeGuardLine(tape, into);
      }
      return fail(2, tape.from);
    }

    private boolean takeTableLine(Tape tape, Code into) {
      if (into.tableTold) {
        return fail(4, tape.from);
      }
      into.tableTold = true;
      if (!takeName(tape, PLACES, PLACES)) {
        return false;
      }
      return into.takeTable(tape) ? takeSign(tape) : fail(3, tape.from);
    }

    private boolean takeWordLine(Tape tape, Code into) {
      int w = into.words.size;
      if (w >= WORDS_MOST) {
        return fail(5, tape.from);
      }
      if (!takeName(tape, 1, NAME_MOST)) {
        return false;
      }
      into.words.add(tape);
      if (!takeNumber(tape, 1, 99)) {
        return false;
      }
      into.weights[w] = tape.value;
      return takeSign(tape);
    }

    private boolean takeShortLine(Tape tape, Code into) {
      if (into.shorts.size >= SHORTS_MOST) {
        return fail(5, tape.from);
      }
      if (!takeName(tape, 1, SHORT_MOST)) {
        return false;
      }
      into.shorts.add(tape);
      if (!takeName(tape, 2, NAME_MOST)) {
        return false;
      }
      into.longs.add(tape);
      return takeSign(tape);
    }

    private boolean takeSlipLine(Tape tape, Code into) {
      if (into.slipTold) {
        return fail(4, tape.from);
      }
      into.slipTold = true;
      if (!takeNumber(tape, 0, 9)) {
        return false;
      }
      into.less = tape.value;
      if (!takeNumber(tape, 0, 9)) {
        return false;
      }
      into.more = tape.value;
      return takeSign(tape);
    }

    private boolean takeTimeLine(Tape tape, Code into) {
      if (into.timeTold) {
        return fail(4, tape.from);
      }
      into.timeTold = true;
      if (!takeNumber(tape, 1, 99)) {
        return false;
      }
      into.knock = tape.value;
      if (!takeNumber(tape, 1, 99)) {
        return false;
      }
      into.pause = tape.value;
      if (!takeNumber(tape, 1, 99)) {
        return false;
      }
      into.gap = tape.value;
      return takeSign(tape);
    }

    private boolean takeGuardLine(Tape tape, Code into) {
      if (into.guards >= GUARDS_MOST) {
        return fail(5, tape.from);
      }
      into.guards++;
      if (!takeNumber(tape, 0, MINUTES - 1)) {
        return false;
      }
      int from = tape.value;
      if (!takeNumber(tape, 1, 60)) {
        return false;
      }
      into.night.watch(from, tape.value);
      return takeSign(tape);
    }

    private boolean takeName(Tape tape, int shortest, int longest) {
      tape.nextToken();
      if (!isToken(tape, Tape.TOKEN_NAME)) {
        return false;
      }
      int length = tape.at - tape.from;
      return length >= shortest && length <= longest || fail(3, tape.from);
    }

    private boolean takeNumber(Tape tape, int least, int most) {
      tape.nextToken();
      if (!isToken(tape, Tape.TOKEN_NUMBER)) {
        return false;
      }
      return tape.value >= least && tape.value <= most || fail(3, tape.from);
    }

    private boolean takeSign(Tape tape) {
      tape.nextToken();
      return isToken(tape, Tape.TOKEN_SIGN);
    }

    private boolean isToken(Tape tape, int wanted) {
      if (tape.token == Tape.TOKEN_NONE) {
        return fail(1, tape.from);
      }
      return tape.token == wanted || fail(2, tape.from);
    }

    /** Always false, so that a line can end with it. */
    private boolean fail(int fault, int place) {
      kind = fault;
      where = place;
      return false;
    }
  }

  /** What an IMAGE is; what is now has the same form, so that keep and back are one copy. */
  private static final class Image {
    final byte[] letters = new byte[PLACES];
    final byte[] places = new byte[ALPHABET];
    final int[] heardCounts = new int[HEARD_MOST];
    int heardSize;
    final int[] knowers = new int[WORDS_MOST];
    boolean kept;

    /** A table anew: nothing is HEARD, SAID. */
    void startWith(byte[] table) {
      Arrays.fill(places, (byte) -1);
      for (int p = 0; p < PLACES && p < table.length; p++) {
        put(p, table[p]);
      }
      heardSize = 0;
      Arrays.fill(knowers, 0);
    }

    void put(int place, byte letter) {
      if (isPlace(place) && Tape.isLetter(letter)) {
        letters[place] = letter;
        places[letter - 'a'] = (byte) place;
      }
    }

    void copyFrom(Image other) {
      System.arraycopy(other.letters, 0, letters, 0, PLACES);
      System.arraycopy(other.places, 0, places, 0, ALPHABET);
      System.arraycopy(other.heardCounts, 0, heardCounts, 0, HEARD_MOST);
      System.arraycopy(other.knowers, 0, knowers, 0, WORDS_MOST);
      heardSize = other.heardSize;
    }

    /** The PLACE of a letter; -1, if THE TABLE has it not or it is none. */
    int placeOf(int letter) {
      return Tape.isLetter(letter) ? places[letter - 'a'] : -1;
    }

    int knocksOf(int letter) {
      int place = placeOf(letter);
      return place < 0 ? 0 : place / SIDE + place % SIDE + 2;
    }

    int knocksOfName(Names names, int i) {
      int knocks = 0;
      for (int j = 0; j < names.lengthOf(i); j++) {
        knocks += knocksOf(names.letterAt(i, j));
      }
      return knocks;
    }

    /** COUNT c of a NAME: two for each letter, its ROW and its COLUMN. */
    int countOfName(Names names, int i, int c) {
      int place = placeOf(names.letterAt(i, c / 2));
      if (place < 0) {
        return 0;
      }
      return (c % 2 == 0 ? place / SIDE : place % SIDE) + 1;
    }
  }

  /** The measures of a SAYING. */
  private static final class Saying {
    int letters;
    int names;
    int knocks;
    int time;
    int shortKnocks;
    int shortTime;
    int shortNames;

    /** Of a tape that is a SAYING. */
    void measure(Tape tape, Code plan, Image now) {
      letters = 0;
      names = 0;
      knocks = 0;
      time = 0;
      shortKnocks = 0;
      shortTime = 0;
      shortNames = 0;
      int length = 0;
      for (int i = 0; i < tape.size; i++) {
        if (tape.bytes[i] != ' ') {
          length++;
        } else if (length > 0) {
          addName(tape, i - length, length, plan, now);
          length = 0;
        }
      }
      if (length > 0) {
        addName(tape, tape.size - length, length, plan, now);
      }
    }

    private void addName(Tape tape, int from, int length, Code plan, Image now) {
      int own = 0;
      for (int i = from; i < from + length; i++) {
        own += now.knocksOf(tape.bytes[i]);
      }
      int ahead = names == 0 ? 0 : 2 * plan.gap;
      int ownTime = ahead + timeOf(own, length, plan);
      names++;
      letters += length;
      knocks += own;
      time += ownTime;
      int s = plan.longs.firstLike(tape, from, length);
      int fewer = s < 0 ? own : now.knocksOfName(plan.shorts, s);
      if (fewer < own) {
        shortNames++;
        shortKnocks += fewer;
        shortTime += ahead + timeOf(fewer, plan.shorts.lengthOf(s), plan);
      } else {
        shortKnocks += own;
        shortTime += ownTime;
      }
    }

    private static int timeOf(int knocks, int length, Code plan) {
      return knocks * plan.knock + length * plan.pause + (length - 1) * plan.gap;
    }
  }

  /** TONGUE and the BEST TABLE. */
  private static final class Tongue {
    final int[] often = new int[ALPHABET];
    final byte[] sorted = new byte[PLACES];
    final byte[] ideal = new byte[PLACES];

    void learn(Code plan, Image now) {
      Arrays.fill(often, 0);
      for (int w = 0; w < plan.words.size; w++) {
        for (int j = 0; j < plan.words.lengthOf(w); j++) {
          addTo(plan.words.letterAt(w, j), plan.weights[w]);
        }
      }
      int size = 0;
      for (byte letter = 'a'; letter <= 'z'; letter++) {
        if (now.placeOf(letter) >= 0 && size < PLACES) {
          sortIn(letter, size);
          size++;
        }
      }
      for (int i = 0; i < PLACES; i++) {
        ideal[CHEAPEST[i]] = sorted[i];
      }
    }

    private void addTo(int letter, int weight) {
      if (Tape.isLetter(letter)) {
        often[letter - 'a'] += weight;
      }
    }

    private int oftenOf(int letter) {
      return Tape.isLetter(letter) ? often[letter - 'a'] : 0;
    }

    /** Behind all that come as often or more often: letters come by the alphabet. */
    private void sortIn(byte letter, int size) {
      int i = size;
      while (i > 0 && oftenOf(sorted[i - 1]) < oftenOf(letter)) {
        sorted[i] = sorted[i - 1];
        i--;
      }
      sorted[i] = letter;
    }

    int meanBy(byte[] table) {
      int sum = 0;
      for (int p = 0; p < PLACES && p < table.length; p++) {
        sum += oftenOf(table[p]) * (p / SIDE + p % SIDE + 2);
      }
      return sum;
    }
  }

  /** CHANCES of WORDS by what is HEARD, and by what could be. */
  private static final class Hearing {
    final long[] chances = new long[WORDS_MOST];
    long total;
    int top;
    /** Row d: the CHANCE of each WORD by the first d COUNTS of those that could be heard. */
    final long[][] depths = new long[2 * SENT_LETTERS_MOST + 1][WORDS_MOST];
    /** Row c: COUNT c of each WORD as it is knocked. */
    final int[][] knocked = new int[2 * SENT_LETTERS_MOST][WORDS_MOST];

    void weigh(Code plan, Image now) {
      total = 0;
      for (int w = 0; w < plan.words.size; w++) {
        chances[w] = chanceOf(plan, now, w);
        total += chances[w];
      }
      top = topOf(chances, plan.words.size);
    }

    private static long chanceOf(Code plan, Image now, int w) {
      if (2 * plan.words.lengthOf(w) != now.heardSize) {
        return 0;
      }
      long chance = plan.weights[w];
      for (int c = 0; c < now.heardSize; c++) {
        chance *= plan.slips(now.heardCounts[c] - now.countOfName(plan.words, w, c));
      }
      return chance;
    }

    /** The least of those with the greatest CHANCE; -1, if none has any. */
    private static int topOf(long[] chances, int size) {
      int top = -1;
      long greatest = 0;
      for (int w = 0; w < size; w++) {
        if (chances[w] > greatest) {
          top = w;
          greatest = chances[w];
        }
      }
      return top;
    }

    /** WEIGHT times the ways, of OF for each COUNT, in which a WORD sent n times is READ RIGHT. */
    long readRight(Code plan, Image now, int w, int n) {
      int once = 2 * plan.words.lengthOf(w);
      if (once < 1 || once * n > 2 * SENT_LETTERS_MOST) {
        return 0;
      }
      for (int v = 0; v < plan.words.size; v++) {
        depths[0][v] = 2 * plan.words.lengthOf(v) == once ? plan.weights[v] : 0;
        for (int c = 0; c < once; c++) {
          knocked[c][v] = now.countOfName(plan.words, v, c);
        }
      }
      return goodWays(this, plan, w, once, 0, once * n);
    }

    private static long goodWays(Hearing by, Code plan, int w, int once, int depth, int last) {
      if (depth >= last || once < 1) {
        return topOf(by.depths[last], plan.words.size) == w ? by.depths[last][w] : 0;
      }
      int[] sent = by.knocked[depth % once];
      long good = 0;
      for (int off = -1; off <= 1; off++) {
        if (plan.slips(off) > 0) {
          by.listen(plan, sent, depth, sent[w] + off);
          good += goodWays(by, plan, w, once, depth + 1, last);
        }
      }
      return good;
    }

    /** Row depth + 1, if the next COUNT is heard so. */
    private void listen(Code plan, int[] sent, int depth, int heard) {
      long[] before = depths[depth];
      long[] after = depths[depth + 1];
      for (int v = 0; v < plan.words.size; v++) {
        after[v] = before[v] == 0 ? 0 : before[v] * plan.slips(heard - sent[v]);
      }
    }
  }

  /** BY MOUTHS: of OF to the m ways behind m walls, in how many each COUNT is said. */
  private static final class Mouths {
    final long[] ways = new long[SIDE];
    final long[] next = new long[SIDE];

    void pass(Code plan, int count, int m) {
      for (int c = 1; c <= SIDE; c++) {
        ways[c - 1] = c == count ? 1 : 0;
      }
      for (int i = 0; i < m; i++) {
        Arrays.fill(next, 0);
        for (int c = 1; c <= SIDE; c++) {
          next[Math.max(1, c - 1) - 1] += ways[c - 1] * plan.slips(-1);
          next[c - 1] += ways[c - 1] * plan.slips(0);
          next[Math.min(SIDE, c + 1) - 1] += ways[c - 1] * plan.slips(1);
        }
        System.arraycopy(next, 0, ways, 0, SIDE);
      }
    }

    /** The least COUNT, less 1, of those with the most ways. */
    int mostWays() {
      int most = 0;
      for (int i = 1; i < SIDE; i++) {
        if (ways[i] > ways[most]) {
          most = i;
        }
      }
      return most;
    }
  }

  /** MINUTES 0 to 599: 1, where STILL. */
  private static final class Night {
    final byte[] watched = new byte[MINUTES];

    void clear() {
      Arrays.fill(watched, (byte) 0);
    }

    void watch(int from, int many) {
      for (int minute = Math.max(0, from); minute < from + many && minute < MINUTES; minute++) {
        watched[minute] = 1;
      }
    }

    int watchedMinutes() {
      int sum = 0;
      for (int minute = 0; minute < MINUTES; minute++) {
        sum += watched[minute];
      }
      return sum;
    }

    /** The first MINUTE from one on that is as wanted (1: STILL), or -1. */
    int firstFrom(int from, int wanted) {
      for (int minute = Math.max(0, from); minute < MINUTES; minute++) {
        if (watched[minute] == wanted) {
          return minute;
        }
      }
      return -1;
    }

    int firstRow(int from, int n) {
      int row = 0;
      for (int minute = Math.max(0, from); minute < MINUTES; minute++) {
        row = watched[minute] == 0 ? row + 1 : 0;
        if (row == n) {
          return minute - n + 1;
        }
      }
      return -1;
    }

    int rowsHeld(int n) {
      int rows = 0;
      int row = 0;
      for (int minute = 0; minute < MINUTES; minute++) {
        row = watched[minute] == 0 ? row + 1 : 0;
        if (row == n) {
          rows++;
          row = 0;
        }
      }
      return rows;
    }

    int longestRow() {
      int longest = 0;
      int row = 0;
      for (int minute = 0; minute < MINUTES; minute++) {
        row = watched[minute] == 0 ? row + 1 : 0;
        longest = Math.max(longest, row);
      }
      return longest;
    }
  }

  /** A SHEET; a lane below 0 means nothing. Its row is made once, to keep the room small. */
  private static final class Sheet {
    final int[] cells = new int[SHEET_MOST];
    int lane = -1;
    int size;

    void renew(int newLane, int newSize) {
      Arrays.fill(cells, 0);
      lane = newLane;
      size = Math.max(0, Math.min(SHEET_MOST, newSize));
    }

    /** The FAULT of CELL i of a row taken as of a lane. */
    int faultOf(int asLane, int i) {
      return lane >= 0 && lane != asLane ? FAULT_CAST : faultAt(i);
    }

    int faultAt(int i) {
      if (lane < 0) {
        return FAULT_NULL;
      }
      return i >= 0 && i < size ? 0 : FAULT_INDEX;
    }

    int cellAt(int i) {
      return faultAt(i) == 0 ? cells[i] : 0;
    }

    void put(int i, int v) {
      if (faultAt(i) != 0) {
        return;
      }
      switch (lane) {
        case 0: cells[i] = (byte) v; break;
        case 1: cells[i] = (short) v; break;
        default: cells[i] = v; break;
      }
    }
  }
}
