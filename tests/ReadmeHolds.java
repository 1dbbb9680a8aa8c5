import java.io.IOException;
import java.lang.reflect.Method;
import java.lang.reflect.Modifier;
import java.nio.file.Files;
import java.nio.file.Path;
import java.util.ArrayList;
import java.util.Comparator;
import java.util.List;
import java.util.regex.Matcher;
import java.util.regex.Pattern;
import java.util.stream.Stream;

/** README.md: its Java compiles and answers as it says, its commands run, it names calls and tests. */
public final class ReadmeHolds {
  private static int wrong = 0;

  private static void must(boolean holds, String what) {
    if (!holds) {
      wrong++;
      System.out.println("README.md does not hold: " + what);
    }
  }

  private static List<String> blocks(String page, String kind) {
    List<String> all = new ArrayList<>();
    Matcher block = Pattern.compile("(?ms)^```" + kind + "\n(.*?)^```$").matcher(page);
    while (block.find()) {
      all.add(block.group(1));
    }
    return all;
  }

  private static List<Path> filesUnder(Path root) throws IOException {
    try (Stream<Path> all = Files.walk(root)) {
      return all.sorted().toList();
    }
  }

  private static void copy(Path from, Path to) throws IOException {
    for (Path one : filesUnder(from)) {
      Path target = to.resolve(from.relativize(one).toString());
      if (Files.isDirectory(one)) {
        Files.createDirectories(target);
      } else {
        Files.copy(one, target);
      }
    }
  }

  /** A row 'call;  // answer' asks for that answer; every other row stays as it is. */
  private static String asTest(String helper, String use) {
    StringBuilder text = new StringBuilder("final class ReadmeUse {\n  static int wrong = 0;\n");
    text.append("  static void due(String row, long got, long want) {\n");
    text.append("    if (got != want) {\n      wrong++;\n");
    text.append("      System.out.println(row + \" answered \" + got + \", README.md says \" + want);\n    }\n  }\n");
    text.append(helper).append("  public static void main(String[] args) {\n");
    int rows = 0;
    Matcher row = Pattern.compile("(x\\.\\w+\\(.*\\)); +// (-?\\d+)(: .*)?").matcher("");
    for (String line : use.split("\n")) {
      if (row.reset(line).matches()) {
        rows++;
        text.append("    due(\"").append(row.group(1)).append("\", ").append(row.group(1)).append(", ");
        text.append(row.group(2)).append(");\n");
      } else {
        must(!line.contains("//"), "a row without an answer: " + line);
        text.append("    ").append(line).append("\n");
      }
    }
    must(rows > 0, "no row of use has an answer");
    return text.append("    System.exit(wrong == 0 ? 0 : 1);\n  }\n}\n").toString();
  }

  private static void run(Path where, String command) throws IOException, InterruptedException {
    ProcessBuilder builder = new ProcessBuilder("sh", "-c", command).directory(where.toFile());
    Path printed = where.resolve("printed.txt");
    int code = builder.redirectErrorStream(true).redirectOutput(printed.toFile()).start().waitFor();
    must(code == 0, command + " ended with " + code + "\n" + Files.readString(printed));
  }

  private static void use(String page, Path project) throws IOException, InterruptedException {
    List<String> java = blocks(page, "java");
    must(java.size() == 2, "a helper and a use in Java");
    if (java.size() == 2) {
      Files.writeString(project.resolve("ReadmeUse.java"), asTest(java.get(0), java.get(1)));
      run(project, "javac -d used src/main/java/KnockWall.java ReadmeUse.java && java -cp used ReadmeUse");
    }
  }

  private static void commands(String page, Path project) throws IOException, InterruptedException {
    int ran = 0;
    for (String block : blocks(page, "sh")) {
      for (String command : block.split("\n")) {
        if (command.equals(".ci/run")) {
          // This test runs within it.
          must(Files.isExecutable(Path.of(".ci/run")), ".ci/run can not be run");
        } else {
          run(project, command);
          ran++;
        }
      }
    }
    must(ran > 0, "no command of a test alone");
  }

  private static void names(String page) throws IOException {
    for (Method m : KnockWall.class.getDeclaredMethods()) {
      boolean open = Modifier.isPublic(m.getModifiers());
      must(!open || page.contains("`" + m.getName() + "`"), m.getName() + " is not named");
    }
    for (Path one : filesUnder(Path.of("tests"))) {
      must(Files.isDirectory(one) || page.contains("`" + one + "`"), one + " is not named");
    }
    Matcher named = Pattern.compile("`([\\w./]*\\.(?:java|md))`").matcher(page);
    while (named.find()) {
      must(Files.exists(Path.of(named.group(1))), "there is no " + named.group(1));
    }
  }

  public static void main(String[] args) throws IOException, InterruptedException {
    String page = Files.readString(Path.of("README.md"));
    Path room = Files.createTempDirectory("readme");
    try {
      // A copy, so that what the commands make does not come among the project's files.
      Path project = Files.createDirectories(room.resolve("main"));
      copy(Path.of("src"), project.resolve("src"));
      copy(Path.of("tests"), project.resolve("tests"));
      Files.createSymbolicLink(room.resolve("shared"), Path.of("../shared").toAbsolutePath());
      names(page);
      use(page, project);
      commands(page, project);
    } finally {
      List<Path> all = new ArrayList<>(filesUnder(room));
      all.sort(Comparator.reverseOrder());
      for (Path one : all) {
        Files.delete(one);
      }
    }
    System.out.println(wrong == 0 ? "README.md holds" : wrong + " things of README.md do not hold");
    if (wrong != 0) {
      System.exit(1);
    }
  }
}
