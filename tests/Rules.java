import java.io.IOException;
import java.lang.reflect.Constructor;
import java.lang.reflect.Field;
import java.lang.reflect.Method;
import java.lang.reflect.Modifier;
import java.nio.file.Files;
import java.nio.file.Path;
import java.util.ArrayList;
import java.util.HashSet;
import java.util.List;
import java.util.Set;
import java.util.TreeSet;
import java.util.regex.Matcher;
import java.util.regex.Pattern;

/** The document's public face, and those rules of LANGUAGE.md that can be seen from outside. */
public final class Rules {
  private static final String[] FACE = {
    "int feed(long)", "int end(int)", "int code()", "int fault()", "int told(int)", "int table(int)",
    "int place(int)", "int word(int,int)", "int swap(int,int)", "int takes(int)", "int wrong()",
    "int mean(int)", "int best(int)", "int adopt()", "int hear(int)", "int hush()", "int heard(int)",
    "long chance(int,int)", "int likeliest()", "long sure(int)", "int fits()", "long right(int,int,int)",
    "long mouths(int,int,int,int)", "long letter(int,int,int,int)", "int becomes(int,int)",
    "long pipe(int,int,int)", "int turns(int)", "int still(int,int)", "int begin(int,int)",
    "int nights(int)", "int longest(int)", "int teach(int)", "int said(int,int,int)", "int knows(int)",
    "int ask(int,int,int)", "int heardBy(int)", "int keep(int)", "int back(int)",
    "int sheet(int,int,int)", "int lay(int,int,int)", "int read(int,int,int,int)", "int torn()",
    "int count(int)"
  };
  private static int wrong = 0;

  private static void must(boolean holds, String what) {
    if (!holds) {
      wrong++;
      System.out.println("not as due: " + what);
    }
  }

  private static String headOf(Method m) {
    List<String> types = new ArrayList<>();
    for (Class<?> type : m.getParameterTypes()) {
      types.add(type.getSimpleName());
    }
    return m.getReturnType().getSimpleName() + " " + m.getName() + "(" + String.join(",", types) + ")";
  }

  private static void face() {
    Set<String> open = new TreeSet<>();
    for (Method m : KnockWall.class.getDeclaredMethods()) {
      if (!Modifier.isPrivate(m.getModifiers())) {
        open.add(headOf(m));
        must(Modifier.isPublic(m.getModifiers()) && !Modifier.isStatic(m.getModifiers()), "the face: " + m);
      }
    }
    must(open.equals(new TreeSet<>(List.of(FACE))), "the methods of the face: " + open);
    Set<String> constants = new TreeSet<>();
    for (Field f : KnockWall.class.getDeclaredFields()) {
      if (!Modifier.isPrivate(f.getModifiers())) {
        constants.add(f.getName());
      }
    }
    must(constants.equals(Set.of("BAD", "STATE", "FULL", "NONE")), "the constants of the face: " + constants);
    Constructor<?>[] made = KnockWall.class.getDeclaredConstructors();
    must(made.length == 1 && Modifier.isPublic(made[0].getModifiers()) && made[0].getParameterCount() == 0,
        "one public constructor without parameters");
    must(Modifier.isFinal(KnockWall.class.getModifiers()), "the class is final");
  }

  private static void classes() {
    Set<String> names = new HashSet<>();
    for (String head : FACE) {
      names.add(head.replaceAll("^.* |\\(.*$", ""));
    }
    List<Class<?>> all = new ArrayList<>(List.of(KnockWall.class.getDeclaredClasses()));
    must(all.size() <= 12, "at most some twelve classes");
    for (Class<?> c : all) {
      must(Modifier.isStatic(c.getModifiers()) && !Modifier.isPublic(c.getModifiers()), c + " is static and not public");
    }
    all.add(KnockWall.class);
    for (Class<?> c : all) {
      int fields = 0;
      for (Field f : c.getDeclaredFields()) {
        fields += Modifier.isStatic(f.getModifiers()) ? 0 : 1;
        must(!Modifier.isStatic(f.getModifiers()) || Modifier.isFinal(f.getModifiers()), "static and not final: " + f);
      }
      must(fields <= 20, "at most some twenty fields: " + c);
      for (Method m : c.getDeclaredMethods()) {
        must(m.getParameterCount() <= 7, "at most seven parameters: " + m);
        must(Modifier.isPublic(m.getModifiers()) || !names.contains(m.getName()), "the name of a public method: " + m);
      }
    }
  }

  /** The source without comments, texts and signs. */
  private static String bare(String source) {
    return source.replaceAll("(?s)/\\*.*?\\*/", "").replaceAll("//[^\n]*", "")
        .replaceAll("\"[^\"\n]*\"", "\"\"").replaceAll("'[^'\n]*'", "'a'");
  }

  private static void text() throws IOException {
    String source = bare(Files.readString(Path.of("src/main/java/KnockWall.java")));
    String refused = "\\b(throw|throws|try|catch|finally|synchronized|assert|package|protected|native|volatile|Object"
        + "|Random|Thread|String\\.format|hashCode|toString|getClass|MAX_VALUE|MIN_VALUE)\\b|->|::|Exact\\b|static \\{|@";
    Matcher found = Pattern.compile(refused).matcher(source);
    while (found.find()) {
      must(false, "outside the language: " + found.group());
    }
    Matcher library = Pattern.compile("\\b(import [^;]*|System\\.\\w+|Arrays\\.\\w+|Math\\.\\w+|Integer\\.\\w+|Long\\.\\w+)").matcher(source);
    Set<String> allowed = Set.of("import java.util.Arrays", "System.arraycopy", "Arrays.fill", "Math.min", "Math.max",
        "Integer.bitCount");
    while (library.find()) {
      must(allowed.contains(library.group()), "outside the library: " + library.group());
    }
    int at = 0;
    int open = -1;
    for (String line : source.split("\n")) {
      at++;
      if (open < 0 && line.matches("(  |    )(?! )[^;=]*\\) \\{")) {
        open = at;
      } else if (open >= 0 && line.matches("(  |    )\\}")) {
        must(at - open <= 60, "a method of more than sixty lines ends at line " + at);
        open = -1;
      }
    }
  }

  /** Rule 8: a method that calls itself is private and static. */
  private static void recursion() throws IOException {
    String source = bare(Files.readString(Path.of("src/main/java/KnockWall.java")));
    Matcher method = Pattern.compile("(?ms)^( +)([\\w ]*?)[\\w\\[\\]]+ (\\w+)\\([^)]*\\) \\{\n(.*?)^\\1\\}").matcher(source);
    int methods = 0;
    int recursive = 0;
    for (int at = 0; method.find(at); at = method.end(3)) {
      methods++;
      // Behind a dot stands another object's method of the same name.
      if (Pattern.compile("(?<!\\.)\\b" + method.group(3) + "\\(").matcher(method.group(4)).find()) {
        recursive++;
        must(method.group(2).equals("private static "), "calls itself, but is not private static: " + method.group(3));
      }
    }
    must(methods > FACE.length && recursive == 2, "two of all methods call themselves: " + recursive + " of " + methods);
  }

  /** What a run makes is counted: no call makes an object, only constructors do. */
  private static void room() throws IOException {
    String source = bare(Files.readString(Path.of("src/main/java/KnockWall.java")));
    for (String line : source.split("\n")) {
      boolean field = line.matches("\\s+(private )?(final )?[\\w\\[\\]]+ \\w+ = new .*;");
      boolean inConstructor = line.matches("\\s+(images\\[k\\]|sheets\\[k\\]|letters|lengths|masks) = new .*;");
      must(!line.contains("new ") || field || inConstructor, "an object is made by a call: " + line.trim());
    }
  }

  public static void main(String[] args) throws IOException {
    face();
    classes();
    text();
    recursion();
    room();
    System.out.println(wrong == 0 ? "all rules hold" : wrong + " rules do not hold");
    if (wrong != 0) {
      System.exit(1);
    }
  }
}
