import java.math.BigInteger;
import java.util.ArrayList;
import java.util.Arrays;
import java.util.HashSet;
import java.util.List;
import java.util.Random;
import java.util.Set;
import java.util.TreeSet;

/** Long runs of random calls, each answer against a plain model of the document. */
public final class ModelRuns {
  private static final int RUNS = 500, CALLS = 512;

  /** The document once more, in lists, texts and big numbers, without a thought for room or speed. */
  private static final class Model {
    static final int BAD = -1, STATE = -2, FULL = -3, NONE = -4;
    static final String[] KINDS = {"table", "word", "short", "slip", "time", "guard"};

    static final class Told {
      String table = "abcdefghijlmnopqrstuvwxyz";
      List<String> words = new ArrayList<>();
      List<Integer> weights = new ArrayList<>();
      List<String> shorts = new ArrayList<>();
      List<String> fulls = new ArrayList<>();
      List<int[]> guards = new ArrayList<>();
      int[] slip = {1, 1};
      int[] time = {3, 6, 12};
      Set<String> once = new HashSet<>();
      int lines = 0;
    }

    static final class Fault extends Exception {
      final int kind;
      final int place;

      Fault(int kind, int place) {
        this.kind = kind;
        this.place = place;
      }
    }

    static final class Kept {
      String table;
      List<Integer> heard;
      List<TreeSet<Integer>> said;
    }

    String tape = "";
    Told told = new Told();
    String table = told.table;
    int fault = 0;
    List<Integer> heard = new ArrayList<>();
    List<TreeSet<Integer>> said = new ArrayList<>();
    Kept[] images = new Kept[2];
    Object[] sheets = new Object[4];
    int torn = 0;
    // the reading of a code
    int at;
    String token;
    int from;

    int feed(long v) {
      if (tape.length() > 312) {
        return FULL;
      }
      for (int shift = 56; shift >= 0; shift -= 8) {
        tape += (char) (v >>> shift & 255);
      }
      return tape.length();
    }

    int end(int n) {
      if (n < 0 || n > tape.length()) {
        return BAD;
      }
      int had = tape.length();
      tape = tape.substring(0, n);
      return had;
    }

    int code() {
      try {
        told = parse();
        table = told.table;
        heard = new ArrayList<>();
        said = new ArrayList<>();
        for (String w : told.words) {
          said.add(new TreeSet<>());
        }
        images = new Kept[2];
        fault = 0;
        return told.lines;
      } catch (Fault f) {
        fault = f.kind;
        return -10 - f.place;
      } finally {
        tape = "";
      }
    }

    private void next() throws Fault {
      while (at < tape.length() && tape.charAt(at) == ' ') {
        at++;
      }
      from = at;
      String rest = tape.substring(at);
      token = rest.isEmpty() ? "" : rest.replaceFirst("(?s)^([a-z]+|[0-9]+|;|.).*$", "$1");
      if (!token.matches("|[a-z]+|[0-9]{1,3}|;")) {
        throw new Fault(1, from);
      }
      at += token.length();
    }

    private String next(String form, String bounds) throws Fault {
      next();
      if (!token.matches(form)) {
        throw new Fault(2, from);
      }
      if (!token.matches(bounds)) {
        throw new Fault(3, from);
      }
      return token;
    }

    private String name(int least, int most) throws Fault {
      return next("[a-z]+", "[a-z]{" + least + "," + most + "}");
    }

    private int number(int least, int most) throws Fault {
      int n = Integer.parseInt(next("[0-9]+", ".*"));
      if (n < least || n > most) {
        throw new Fault(3, from);
      }
      return n;
    }

    private Told parse() throws Fault {
      Told t = new Told();
      at = 0;
      for (next(); !token.isEmpty(); next()) {
        line(t, token, from);
        next(";", ";");
        t.lines++;
      }
      String used = String.join("", t.words) + String.join("", t.shorts) + String.join("", t.fulls);
      for (char c : used.toCharArray()) {
        if (t.table.indexOf(c) < 0) {
          throw new Fault(6, tape.length());
        }
      }
      return t;
    }

    private void line(Told t, String kind, int place) throws Fault {
      if (!Arrays.asList(KINDS).contains(kind)) {
        throw new Fault(2, place);
      }
      if (Arrays.asList("table", "slip", "time").contains(kind) && !t.once.add(kind)) {
        throw new Fault(4, place);
      }
      if (kind.equals("word") && t.words.size() == 10 || kind.equals("short") && t.shorts.size() == 6
          || kind.equals("guard") && t.guards.size() == 6) {
        throw new Fault(5, place);
      }
      switch (kind) {
        case "table":
          t.table = name(25, 25);
          if (t.table.chars().distinct().count() != 25) {
            throw new Fault(3, from);
          }
          break;
        case "word":
          t.words.add(name(1, 8));
          t.weights.add(number(1, 99));
          break;
        case "short":
          t.shorts.add(name(1, 3));
          t.fulls.add(name(2, 8));
          break;
        case "slip":
          t.slip = new int[] {number(0, 9), number(0, 9)};
          break;
        case "time":
          t.time = new int[] {number(1, 99), number(1, 99), number(1, 99)};
          break;
        default:
          t.guards.add(new int[] {number(0, 599), number(1, 60)});
      }
    }

    int told(int what) {
      int[] all = {told.words.size(), told.shorts.size(), told.slip[0], told.slip[1],
          told.time[0], told.time[1], told.time[2], told.guards.size()};
      return what < 0 || what > 7 ? BAD : all[what];
    }

    int table(int place) {
      return place < 0 || place > 24 ? BAD : table.charAt(place);
    }

    int place(int letter) {
      if (letter < 'a' || letter > 'z') {
        return BAD;
      }
      return table.indexOf(letter) < 0 ? NONE : table.indexOf(letter);
    }

    /** Row and 1, column and 1, letter by letter. */
    private List<Integer> counts(String name) {
      List<Integer> all = new ArrayList<>();
      for (char c : name.toCharArray()) {
        all.add(table.indexOf(c) / 5 + 1);
        all.add(table.indexOf(c) % 5 + 1);
      }
      return all;
    }

    private int knocks(String name) {
      return counts(name).stream().mapToInt(Integer::intValue).sum();
    }

    private boolean noWord(int w) {
      return w < 0 || w >= told.words.size();
    }

    int word(int w, int what) {
      if (noWord(w)) {
        return BAD;
      }
      String name = told.words.get(w);
      if (what == 0) {
        return name.length();
      }
      if (what == 1) {
        return told.weights.get(w);
      }
      if (what == 2) {
        return knocks(name);
      }
      return what < 10 || what >= 10 + name.length() ? BAD : name.charAt(what - 10);
    }

    int swap(int a, int b) {
      if (a < 0 || a > 24 || b < 0 || b > 24) {
        return BAD;
      }
      char[] all = table.toCharArray();
      all[a] = table.charAt(b);
      all[b] = table.charAt(a);
      table = new String(all);
      return a == b ? 0 : 1;
    }

    int wrong() {
      for (int i = 0; i < tape.length(); i++) {
        if ((" " + table).indexOf(tape.charAt(i)) < 0) {
          return i;
        }
      }
      return tape.isBlank() ? tape.length() : NONE;
    }

    private int time(List<String> names) {
      int sum = 2 * told.time[2] * (names.size() - 1);
      for (String name : names) {
        sum += knocks(name) * told.time[0] + name.length() * told.time[1] + (name.length() - 1) * told.time[2];
      }
      return sum;
    }

    int takes(int what) {
      if (what < 0 || what > 6) {
        return BAD;
      }
      if (wrong() != NONE) {
        return STATE;
      }
      List<String> names = Arrays.asList(tape.trim().split(" +"));
      List<String> brief = new ArrayList<>();
      int shortened = 0;
      for (String name : names) {
        int i = told.fulls.indexOf(name);
        boolean fewer = i >= 0 && knocks(told.shorts.get(i)) < knocks(name);
        brief.add(fewer ? told.shorts.get(i) : name);
        shortened += fewer ? 1 : 0;
      }
      int[] all = {String.join("", names).length(), names.size(), knocks(String.join("", names)), time(names),
          knocks(String.join("", brief)), time(brief), shortened};
      return all[what];
    }

    private int tongue(char letter) {
      int sum = 0;
      for (int w = 0; w < told.words.size(); w++) {
        sum += told.weights.get(w) * (int) told.words.get(w).chars().filter(c -> c == letter).count();
      }
      return sum;
    }

    private String bestTable() {
      List<Character> letters = new ArrayList<>();
      List<Integer> places = new ArrayList<>();
      for (int p = 0; p < 25; p++) {
        letters.add(table.charAt(p));
        places.add(p);
      }
      letters.sort((a, b) -> tongue(a) != tongue(b) ? tongue(b) - tongue(a) : a - b);
      places.sort((a, b) -> a / 5 + a % 5 != b / 5 + b % 5 ? a / 5 + a % 5 - b / 5 - b % 5 : a - b);
      char[] all = new char[25];
      for (int i = 0; i < 25; i++) {
        all[places.get(i)] = letters.get(i);
      }
      return new String(all);
    }

    int mean(int what) {
      if (what < 0 || what > 1) {
        return BAD;
      }
      String by = what == 0 ? table : bestTable();
      int sum = 0;
      for (int p = 0; p < 25; p++) {
        sum += tongue(by.charAt(p)) * (p / 5 + 1 + p % 5 + 1);
      }
      return sum;
    }

    int best(int place) {
      return place < 0 || place > 24 ? BAD : bestTable().charAt(place);
    }

    int adopt() {
      String before = table;
      table = bestTable();
      int others = 0;
      for (int p = 0; p < 25; p++) {
        others += before.charAt(p) == table.charAt(p) ? 0 : 1;
      }
      return others;
    }

    int hear(int n) {
      if (n < 0 || n > 6) {
        return BAD;
      }
      if (heard.size() == 24) {
        return FULL;
      }
      heard.add(n);
      return heard.size();
    }

    int hush() {
      int were = heard.size();
      heard.clear();
      return were;
    }

    int heard(int i) {
      return i < 0 || i >= heard.size() ? BAD : heard.get(i);
    }

    private int slips(int sent, int as) {
      return as == sent ? 20 - told.slip[0] - told.slip[1]
          : as == sent - 1 ? told.slip[0] : as == sent + 1 ? told.slip[1] : 0;
    }

    private BigInteger ways(int w, List<Integer> counts) {
      List<Integer> sent = counts(told.words.get(w));
      if (sent.size() != counts.size()) {
        return BigInteger.ZERO;
      }
      BigInteger product = BigInteger.ONE;
      for (int i = 0; i < sent.size(); i++) {
        product = product.multiply(BigInteger.valueOf(slips(sent.get(i), counts.get(i))));
      }
      return product;
    }

    private BigInteger chance(int w, List<Integer> counts) {
      return ways(w, counts).multiply(BigInteger.valueOf(told.weights.get(w)));
    }

    private boolean noWeighing() {
      return heard.isEmpty() || heard.size() % 2 == 1 || heard.size() > 12;
    }

    private BigInteger chances() {
      BigInteger sum = BigInteger.ZERO;
      for (int v = 0; v < told.words.size(); v++) {
        sum = sum.add(chance(v, heard));
      }
      return sum;
    }

    long chance(int w, int what) {
      if (noWord(w) || what < 0 || what > 1) {
        return BAD;
      }
      if (noWeighing()) {
        return STATE;
      }
      return (what == 0 ? chance(w, heard) : chances()).longValueExact();
    }

    int likeliest() {
      if (noWeighing()) {
        return STATE;
      }
      int found = NONE;
      for (int v = told.words.size() - 1; v >= 0; v--) {
        BigInteger c = chance(v, heard);
        if (c.signum() > 0 && (found == NONE || c.compareTo(chance(found, heard)) >= 0)) {
          found = v;
        }
      }
      return found;
    }

    private static long lowest(BigInteger top, BigInteger bottom, int what) {
      return (what == 0 ? top : bottom).divide(top.gcd(bottom)).longValueExact();
    }

    long sure(int what) {
      if (what < 0 || what > 1) {
        return BAD;
      }
      int found = likeliest();
      return found < 0 ? found : lowest(chance(found, heard), chances(), what);
    }

    int fits() {
      if (noWeighing()) {
        return STATE;
      }
      int bits = 0;
      for (int v = 0; v < told.words.size(); v++) {
        bits += chance(v, heard).signum() > 0 ? 1 << v : 0;
      }
      return bits;
    }

    long right(int w, int n, int what) {
      if (noWord(w) || n < 1 || n > 3 || what < 0 || what > 1) {
        return BAD;
      }
      String name = told.words.get(w);
      int size = name.length() * n * 2;
      if (size > 6) {
        return STATE;
      }
      List<Integer> sent = counts(name.repeat(n));
      BigInteger good = BigInteger.ZERO;
      for (int way = 0; way < Math.pow(3, size); way++) {
        List<Integer> got = new ArrayList<>();
        int rest = way;
        for (int c : sent) {
          got.add(c - 1 + rest % 3);
          rest /= 3;
        }
        BigInteger own = BigInteger.ONE;
        for (int i = 0; i < size; i++) {
          own = own.multiply(BigInteger.valueOf(slips(sent.get(i), got.get(i))));
        }
        if (own.signum() > 0 && taken(got, n) == w) {
          good = good.add(own);
        }
      }
      return lowest(good, BigInteger.valueOf(20).pow(size), what);
    }

    /** The likeliest word by all n times that are heard. */
    private int taken(List<Integer> got, int n) {
      int found = -1;
      BigInteger greatest = BigInteger.ZERO;
      for (int v = 0; v < told.words.size(); v++) {
        BigInteger c = BigInteger.valueOf(told.weights.get(v));
        for (int i = 0; i < n; i++) {
          c = c.multiply(ways(v, got.subList(i * got.size() / n, (i + 1) * got.size() / n)));
        }
        if (c.compareTo(greatest) > 0) {
          greatest = c;
          found = v;
        }
      }
      return found;
    }

    private BigInteger behind(int n, int as, int m) {
      if (m == 0) {
        return n == as ? BigInteger.ONE : BigInteger.ZERO;
      }
      BigInteger sum = BigInteger.ZERO;
      for (int got = n - 1; got <= n + 1; got++) {
        int on = got == 0 ? 1 : got == 6 ? 5 : got;
        sum = sum.add(BigInteger.valueOf(slips(n, got)).multiply(behind(on, as, m - 1)));
      }
      return sum;
    }

    long mouths(int n, int as, int m, int what) {
      if (n < 1 || n > 5 || as < 1 || as > 5 || m < 0 || m > 10 || what < 0 || what > 1) {
        return BAD;
      }
      return lowest(behind(n, as, m), BigInteger.valueOf(20).pow(m), what);
    }

    private BigInteger letter(int place, int as, int m) {
      return behind(place / 5 + 1, as / 5 + 1, m).multiply(behind(place % 5 + 1, as % 5 + 1, m));
    }

    long letter(int place, int as, int m, int what) {
      if (place < 0 || place > 24 || as < 0 || as > 24 || m < 0 || m > 5 || what < 0 || what > 1) {
        return BAD;
      }
      return lowest(letter(place, as, m), BigInteger.valueOf(400).pow(m), what);
    }

    int becomes(int place, int m) {
      if (place < 0 || place > 24 || m < 0 || m > 5) {
        return BAD;
      }
      int found = 0;
      for (int p = 1; p < 25; p++) {
        if (letter(place, p, m).compareTo(letter(place, found, m)) > 0) {
          found = p;
        }
      }
      return found;
    }

    /** Over all 2 to the k ways in which cells begin or not. */
    private BigInteger through(int k, int p) {
      BigInteger sum = BigInteger.ZERO;
      for (int begun = 0; begun < 1 << k; begun++) {
        if (Integer.bitCount(begun) == 1) {
          sum = sum.add(BigInteger.valueOf(p).multiply(BigInteger.valueOf(20 - p).pow(k - 1)));
        }
      }
      return sum;
    }

    long pipe(int k, int p, int what) {
      if (k < 1 || k > 10 || p < 0 || p > 20 || what < 0 || what > 1) {
        return BAD;
      }
      return lowest(through(k, p), BigInteger.valueOf(20).pow(k), what);
    }

    int turns(int k) {
      if (k < 1 || k > 10) {
        return BAD;
      }
      int found = 20;
      for (int p = 19; p >= 0; p--) {
        if (through(k, p).compareTo(through(k, found)) >= 0) {
          found = p;
        }
      }
      return found;
    }

    private boolean watched(int minute) {
      for (int[] g : told.guards) {
        if (minute >= g[0] && minute < g[0] + g[1]) {
          return true;
        }
      }
      return false;
    }

    int still(int minute, int what) {
      if (minute < 0 || minute > 599 || what < 0 || what > 2) {
        return BAD;
      }
      if (what == 0) {
        return watched(minute) ? 1 : 0;
      }
      for (int i = minute; i < 600; i++) {
        if (watched(i) == (what == 2)) {
          return i;
        }
      }
      return NONE;
    }

    private boolean canBegin(int minute, int n) {
      if (minute + n > 600) {
        return false;
      }
      for (int i = minute; i < minute + n; i++) {
        if (watched(i)) {
          return false;
        }
      }
      return true;
    }

    int begin(int minute, int n) {
      if (minute < 0 || minute > 599 || n < 1 || n > 600) {
        return BAD;
      }
      for (int i = minute; i < 600; i++) {
        if (canBegin(i, n)) {
          return i;
        }
      }
      return NONE;
    }

    int nights(int n) {
      if (n < 1 || n > 600) {
        return BAD;
      }
      int[] most = new int[601];
      for (int i = 599; i >= 0; i--) {
        most[i] = Math.max(most[i + 1], canBegin(i, n) ? 1 + most[i + n] : 0);
      }
      return most[0];
    }

    int longest(int what) {
      if (what < 0 || what > 1) {
        return BAD;
      }
      for (int n = 600; n > 0; n--) {
        int found = begin(0, n);
        if (found >= 0) {
          return what == 0 ? n : found;
        }
      }
      return what == 0 ? 0 : NONE;
    }

    private Set<Character> lettersOf(int bits) {
      Set<Character> all = new HashSet<>();
      for (int w = 0; w < told.words.size(); w++) {
        for (char c : (bits >> w & 1) == 1 ? told.words.get(w).toCharArray() : new char[0]) {
          all.add(c);
        }
      }
      return all;
    }

    int teach(int what) {
      if (what < 0 || what > 2) {
        return BAD;
      }
      int all = (1 << told.words.size()) - 1;
      Set<Character> wanted = lettersOf(all);
      int[] least = null;
      for (int bits = 0; bits <= all; bits++) {
        if (lettersOf(bits).equals(wanted)) {
          int sum = 0;
          for (int w = 0; w < told.words.size(); w++) {
            sum += (bits >> w & 1) * knocks(told.words.get(w));
          }
          int[] choice = {sum, Integer.bitCount(bits), bits};
          if (least == null || Arrays.compare(choice, least) < 0) {
            least = choice;
          }
        }
      }
      return least[what];
    }

    int said(int w, int a, int b) {
      if (noWord(w) || a < 0 || a > 10 || b < 0 || b > 10) {
        return BAD;
      }
      for (int c = 0; c <= 10; c++) {
        if (c >= a && c <= b || c >= b && c <= a) {
          said.get(w).add(c);
        }
      }
      return said.get(w).size();
    }

    int knows(int w) {
      return noWord(w) ? BAD : said.get(w).stream().mapToInt(c -> 1 << c).sum();
    }

    int ask(int a, int b, int others) {
      if (a < 0 || a > 10 || b < 0 || b > 10 || others < 0 || others > 2047) {
        return BAD;
      }
      int found = NONE;
      for (int w = told.words.size() - 1; w >= 0; w--) {
        TreeSet<Integer> by = said.get(w);
        boolean hidden = by.stream().noneMatch(c -> (others >> c & 1) == 1);
        if (by.contains(a) && by.contains(b) && hidden
            && (found == NONE || knocks(told.words.get(w)) <= knocks(told.words.get(found)))) {
          found = w;
        }
      }
      return found;
    }

    int heardBy(int what) {
      if (what < 0 || what > 2) {
        return BAD;
      }
      Set<Integer> any = new HashSet<>();
      int found = NONE;
      for (int w = told.words.size() - 1; w >= 0; w--) {
        any.addAll(said.get(w));
        found = found == NONE || said.get(w).size() >= said.get(found).size() ? w : found;
      }
      int[] all = {11 - any.size(), found, found == NONE ? 0 : said.get(found).size()};
      return all[what];
    }

    int keep(int k) {
      if (k < 0 || k > 1) {
        return BAD;
      }
      int was = images[k] == null ? 0 : 1;
      images[k] = new Kept();
      images[k].table = table;
      images[k].heard = new ArrayList<>(heard);
      images[k].said = copy(said);
      return was;
    }

    private static List<TreeSet<Integer>> copy(List<TreeSet<Integer>> said) {
      List<TreeSet<Integer>> all = new ArrayList<>();
      for (TreeSet<Integer> one : said) {
        all.add(new TreeSet<>(one));
      }
      return all;
    }

    int back(int k) {
      if (k < 0 || k > 1) {
        return BAD;
      }
      if (images[k] == null) {
        return STATE;
      }
      table = images[k].table;
      heard = new ArrayList<>(images[k].heard);
      said = copy(images[k].said);
      return heard.size();
    }

    int sheet(int k, int lane, int n) {
      if (k < 0 || k > 3 || lane < 0 || lane > 2 || n > 40) {
        return BAD;
      }
      try {
        sheets[k] = lane == 0 ? new byte[n] : lane == 1 ? new short[n] : (Object) new int[n];
        return 1;
      } catch (NegativeArraySizeException e) {
        return -14;
      }
    }

    int lay(int k, int i, int v) {
      if (k < 0 || k > 3) {
        return BAD;
      }
      try {
        if (sheets[k] instanceof byte[]) {
          ((byte[]) sheets[k])[i] = (byte) v;
        } else if (sheets[k] instanceof short[]) {
          ((short[]) sheets[k])[i] = (short) v;
        } else {
          ((int[]) sheets[k])[i] = v;
        }
        return 1;
      } catch (NullPointerException e) {
        return -11;
      } catch (ArrayIndexOutOfBoundsException e) {
        return -12;
      }
    }

    /** What the real machine says of a cast and an index. */
    int read(int k, int lane, int f, int n) {
      if (k < 0 || k > 3 || lane < 0 || lane > 2 || n < 0 || n > 24) {
        return BAD;
      }
      List<Integer> came = new ArrayList<>();
      int found = 0;
      try {
        for (int i = 0; i < n; i++) {
          int v = lane == 0 ? ((byte[]) sheets[k])[f + i]
              : lane == 1 ? ((short[]) sheets[k])[f + i] : ((int[]) sheets[k])[f + i];
          if (v < 0 || v > 6) {
            return -20 - i;
          }
          if (heard.size() + came.size() == 24) {
            return FULL;
          }
          came.add(v);
        }
      } catch (NullPointerException e) {
        found = 1;
      } catch (ArrayIndexOutOfBoundsException e) {
        found = 2;
      } catch (ClassCastException e) {
        found = 3;
      }
      heard.addAll(came);
      torn = found;
      return came.size();
    }

    int count(int what) {
      switch (what) {
        case 0: return heard.size();
        case 1: return lettersOf(1023).size();
        case 2: return (int) java.util.stream.IntStream.range(0, 600).filter(this::watched).count();
        case 3: return (images[0] == null ? 0 : 1) + (images[1] == null ? 0 : 1);
        case 4: return tape.length();
        case 5: return sheets[0] == null ? NONE : java.lang.reflect.Array.getLength(sheets[0]);
        default: return BAD;
      }
    }
  }

  private final Random random;
  private KnockWall x = new KnockWall();
  private Model m = new Model();
  private int calls = 0;
  private String call;

  private ModelRuns(long seed) {
    random = new Random(seed);
  }

  private int upTo(int n) {
    return random.nextInt(n + 1);
  }

  /** Mostly a number of the bounds, at times one just outside or far away. */
  private int near(int least, int most) {
    int kind = random.nextInt(20);
    if (kind == 0) {
      return least - 1;
    }
    if (kind == 1) {
      return most + 1;
    }
    if (kind == 2 && random.nextInt(4) == 0) {
      return random.nextBoolean() ? Integer.MIN_VALUE + upTo(9) : Integer.MAX_VALUE - upTo(9);
    }
    return least + random.nextInt(most - least + 1);
  }

  private String randomName(int least, int most) {
    String letters = random.nextInt(3) > 0 ? "abcdef" : random.nextInt(6) > 0 ? "abcdefghijlmnopqrstuvwxyz" : "aekz";
    StringBuilder text = new StringBuilder();
    for (int i = least + upTo(most - least); i > 0; i--) {
      text.append(letters.charAt(random.nextInt(letters.length())));
    }
    return text.toString();
  }

  private String randomTable() {
    List<Character> letters = new ArrayList<>();
    for (char c = 'a'; c <= 'z'; c++) {
      letters.add(c);
    }
    java.util.Collections.shuffle(letters, random);
    StringBuilder text = new StringBuilder();
    for (int i = 0; i < 25; i++) {
      text.append(letters.get(i));
    }
    return text.toString();
  }

  private String blanks() {
    return random.nextInt(8) == 0 ? "  " : " ";
  }

  private String randomLine() {
    int odd = random.nextInt(60);
    int more = odd == 0 ? 1 : 0;
    switch (random.nextInt(12)) {
      case 0: return "table" + blanks() + randomTable().substring(more);
      case 1: return "slip" + blanks() + upTo(9 + more) + blanks() + upTo(9 + more);
      case 2: return "time " + (1 - more + upTo(99)) + blanks() + (1 + upTo(98)) + blanks() + (1 + upTo(98 + more));
      case 3:
      case 4: return "guard" + blanks() + upTo(599 + more) + blanks() + (1 + upTo(59 + more));
      case 5:
      case 6: return "short" + blanks() + randomName(1, 3 + more) + blanks() + randomName(2 - more, 8 + more);
      default:
        return "word" + blanks() + randomName(1, random.nextBoolean() ? 3 : 8 + more) + blanks() + (1 - more + upTo(98 + 2 * more));
    }
  }

  private String randomCode() {
    StringBuilder text = new StringBuilder();
    int lines = random.nextInt(4) == 0 ? upTo(3) : upTo(24);
    Set<String> kinds = new HashSet<>();
    for (int i = 0; i < lines; i++) {
      String line = randomLine() + (random.nextInt(4) == 0 ? " ;" : ";") + (random.nextInt(3) == 0 ? " " : "");
      boolean once = line.startsWith("t") || line.startsWith("sl");
      boolean taken = !once || kinds.add(line.substring(0, 4)) || random.nextInt(20) == 0;
      if (taken && text.length() + line.length() <= 312) {
        text.append(line);
      }
    }
    if (random.nextInt(5) == 0 && text.length() > 0) {
      int at = random.nextInt(text.length());
      String signs = "; 0159abkzT?\u00e9";
      switch (random.nextInt(3)) {
        case 0: text.setCharAt(at, signs.charAt(random.nextInt(signs.length()))); break;
        case 1: text.deleteCharAt(at); break;
        default: text.insert(at, signs.charAt(random.nextInt(signs.length())));
      }
    }
    return text.toString();
  }

  private String randomSaying() {
    StringBuilder text = new StringBuilder();
    for (int i = upTo(6); i > 0; i--) {
      boolean known = random.nextBoolean() && !m.told.fulls.isEmpty();
      text.append(known ? m.told.fulls.get(random.nextInt(m.told.fulls.size())) : randomName(1, 9));
      text.append(i > 1 || random.nextInt(4) == 0 ? blanks() : "");
    }
    return text.toString();
  }

  private void due(String what, long got, long want) {
    calls++;
    call = what;
    if (got != want) {
      throw new IllegalStateException(what + " answered " + got + ", due is " + want);
    }
  }

  private void type(String text) {
    due("end(0)", x.end(0), m.end(0));
    for (int i = 0; i < text.length(); i += 8) {
      long v = 0;
      for (int j = i; j < i + 8; j++) {
        v = v << 8 | (j < text.length() ? text.charAt(j) & 255 : 32);
      }
      due("feed(" + v + ")", x.feed(v), m.feed(v));
    }
    due("end of '" + text + "'", x.end(text.length()), m.end(text.length()));
  }

  private void tell() {
    type(randomCode());
    due("code() of '" + m.tape + "'", x.code(), m.code());
    due("fault()", x.fault(), m.fault);
  }

  /** Counts of a word that is told, some of them off. */
  private void hearSome() {
    due("hush()", x.hush(), m.hush());
    if (m.told.words.isEmpty()) {
      return;
    }
    for (int c : m.counts(m.told.words.get(random.nextInt(m.told.words.size())))) {
      int n = c + (random.nextInt(4) == 0 ? upTo(2) - 1 : 0);
      due("hear(" + n + ")", x.hear(n), m.hear(n));
    }
  }

  private void oneOfTheText() {
    int a = near(0, 24);
    int b = near(0, 24);
    switch (random.nextInt(9)) {
      case 0: long v = random.nextLong(); due("feed(" + v + ")", x.feed(v), m.feed(v)); break;
      case 1: a = near(0, m.tape.length()); due("end(" + a + ")", x.end(a), m.end(a)); break;
      case 2: a = near(0, 7); due("told(" + a + ")", x.told(a), m.told(a)); break;
      case 3: due("table(" + a + ")", x.table(a), m.table(a)); break;
      case 4: a = near('a', 'z'); due("place(" + a + ")", x.place(a), m.place(a)); break;
      case 5: a = someWord(); b = random.nextBoolean() ? near(0, 2) : near(10, 14);
        due("word(" + a + ", " + b + ")", x.word(a, b), m.word(a, b)); break;
      case 6: due("swap(" + a + ", " + b + ")", x.swap(a, b), m.swap(a, b)); break;
      case 7: due("fault()", x.fault(), m.fault); break;
      default: if (random.nextInt(8) == 0) { tell(); }
    }
  }

  private void oneOfSayings() {
    int a = near(0, 6);
    switch (random.nextInt(7)) {
      case 0: type(randomSaying()); break;
      case 1: due("takes(" + a + ")", x.takes(a), m.takes(a)); break;
      case 2: due("wrong()", x.wrong(), m.wrong()); break;
      case 3: a = near(0, 1); due("mean(" + a + ")", x.mean(a), m.mean(a)); break;
      case 4: a = near(0, 24); due("best(" + a + ")", x.best(a), m.best(a)); break;
      case 5: if (random.nextInt(8) == 0) { due("adopt()", x.adopt(), m.adopt()); } break;
      default: for (a = 0; a < 7; a++) { due("takes(" + a + ") of '" + m.tape + "'", x.takes(a), m.takes(a)); }
    }
  }

  private void oneOfHearing() {
    int a = someWord();
    int b = near(0, 1);
    switch (random.nextInt(11)) {
      case 0: a = near(0, 6); due("hear(" + a + ")", x.hear(a), m.hear(a)); break;
      case 1: if (random.nextInt(4) == 0) { due("hush()", x.hush(), m.hush()); } break;
      case 2: a = near(0, 24); due("heard(" + a + ")", x.heard(a), m.heard(a)); break;
      case 3: due("chance(" + a + ", " + b + ")", x.chance(a, b), m.chance(a, b)); break;
      case 4: due("likeliest()", x.likeliest(), m.likeliest()); break;
      case 5: due("sure(" + b + ")", x.sure(b), m.sure(b)); break;
      case 6: due("fits()", x.fits(), m.fits()); break;
      case 7: int n = near(1, 3); due("right(" + a + ", " + n + ", " + b + ")", x.right(a, n, b), m.right(a, n, b)); break;
      default: hearSome();
    }
  }

  private void oneOfMouths() {
    int a = near(0, 24);
    int b = near(0, 24);
    int walls = near(0, 5);
    int what = near(0, 1);
    switch (random.nextInt(5)) {
      case 0: a = near(1, 5); b = near(1, 5); walls = near(0, random.nextInt(20) == 0 ? 10 : 6);
        due("mouths(" + a + ", " + b + ", " + walls + ", " + what + ")", x.mouths(a, b, walls, what), m.mouths(a, b, walls, what)); break;
      case 1: due("letter(" + a + ", " + b + ", " + walls + ", " + what + ")", x.letter(a, b, walls, what), m.letter(a, b, walls, what)); break;
      case 2: walls = near(0, 3); due("becomes(" + a + ", " + walls + ")", x.becomes(a, walls), m.becomes(a, walls)); break;
      case 3: a = near(1, 10); b = near(0, 20); due("pipe(" + a + ", " + b + ", " + what + ")", x.pipe(a, b, what), m.pipe(a, b, what)); break;
      default: a = near(1, 7); due("turns(" + a + ")", x.turns(a), m.turns(a));
    }
  }

  private void oneOfGuards() {
    int minute = near(0, 599);
    int n = random.nextBoolean() ? near(1, 600) : near(1, 99);
    switch (random.nextInt(4)) {
      case 0: int a = near(0, 2); due("still(" + minute + ", " + a + ")", x.still(minute, a), m.still(minute, a)); break;
      case 1: due("begin(" + minute + ", " + n + ")", x.begin(minute, n), m.begin(minute, n)); break;
      case 2: due("nights(" + n + ")", x.nights(n), m.nights(n)); break;
      default: a = near(0, 1); due("longest(" + a + ")", x.longest(a), m.longest(a));
    }
  }

  private void oneOfCells() {
    int w = someWord();
    int a = near(0, 10);
    int b = near(0, 10);
    int what = near(0, 2);
    switch (random.nextInt(6)) {
      case 0:
      case 1: due("said(" + w + ", " + a + ", " + b + ")", x.said(w, a, b), m.said(w, a, b)); break;
      case 2: due("knows(" + w + ")", x.knows(w), m.knows(w)); break;
      case 3: int others = random.nextBoolean() ? 1 << upTo(11) : near(0, 2047);
        due("ask(" + a + ", " + b + ", " + others + ")", x.ask(a, b, others), m.ask(a, b, others)); break;
      case 4: due("heardBy(" + what + ")", x.heardBy(what), m.heardBy(what)); break;
      default: due("teach(" + what + ")", x.teach(what), m.teach(what));
    }
  }

  private void oneOfSheets() {
    int k = near(0, random.nextInt(4) == 0 ? 3 : 1);
    int lane = near(0, 2);
    int i = near(0, 12);
    switch (random.nextInt(10)) {
      case 0: k = near(0, 1); due("keep(" + k + ")", x.keep(k), m.keep(k)); break;
      case 1: k = near(0, 1); due("back(" + k + ")", x.back(k), m.back(k)); break;
      case 2: int n = random.nextBoolean() ? near(0, 40) : near(0, 9);
        due("sheet(" + k + ", " + lane + ", " + n + ")", x.sheet(k, lane, n), m.sheet(k, lane, n)); break;
      case 3:
      case 4: int v = random.nextInt(6) > 0 ? upTo(6) + (upTo(9) == 0 ? 256 : 0) + (upTo(9) == 0 ? 65536 : 0) : random.nextInt();
        due("lay(" + k + ", " + i + ", " + v + ")", x.lay(k, i, v), m.lay(k, i, v)); break;
      case 5:
      case 6:
      case 9: n = random.nextBoolean() ? near(0, 24) : near(0, 4);
        lane = someLane(k);
        due("read(" + k + ", " + lane + ", " + i + ", " + n + ")", x.read(k, lane, i, n), m.read(k, lane, i, n)); break;
      case 7: due("torn()", x.torn(), m.torn); break;
      default: i = near(0, 5); due("count(" + i + ")", x.count(i), m.count(i));
    }
  }

  /** A word's number, now and then one that is not told. */
  private int someWord() {
    return near(0, Math.max(0, m.told.words.size() - 1));
  }

  /** Mostly the lane that a sheet has. */
  private int someLane(int k) {
    boolean any = k < 0 || k > 3 || random.nextInt(5) == 0;
    return any ? near(0, 2) : m.sheets[k] instanceof byte[] ? 0 : m.sheets[k] instanceof short[] ? 1 : 2;
  }

  private void run() {
    tell();
    for (int i = 0; i < 4 && m.told.words.isEmpty(); i++) {
      tell();
    }
    while (calls < CALLS - 50) {
      switch (random.nextInt(7)) {
        case 0: oneOfTheText(); break;
        case 1: oneOfSayings(); break;
        case 2: oneOfHearing(); break;
        case 3: oneOfMouths(); break;
        case 4: oneOfGuards(); break;
        case 5: oneOfCells(); break;
        default: oneOfSheets();
      }
    }
  }

  public static void main(String[] args) {
    int runs = args.length > 0 ? Integer.parseInt(args[0]) : RUNS;
    long[] wrong = java.util.stream.LongStream.range(0, runs).parallel().filter(seed -> {
      ModelRuns one = new ModelRuns(seed);
      try {
        one.run();
        return false;
      } catch (RuntimeException e) {
        System.out.println("run " + seed + ", behind " + one.call + ": " + e);
        return true;
      }
    }).toArray();
    System.out.println(wrong.length == 0 ? runs + " runs are as the model" : wrong.length + " runs are not as the model");
    if (wrong.length != 0) {
      System.exit(1);
    }
  }
}
