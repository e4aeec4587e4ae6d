import java.io.IOException;
import java.nio.charset.StandardCharsets;
import java.nio.file.Files;
import java.nio.file.Path;
import java.util.ArrayList;
import java.util.Comparator;
import java.util.List;
import java.util.regex.Matcher;
import java.util.regex.Pattern;
import java.util.stream.Stream;

/** What README.md tells to do is done, in a directory of its own, and has to come out as it tells. */
public final class ReadmeTests {
  static final String MAIN = "src/main/java/DoubleRootSums.java", TESTS = "src/test/java";

  static int wrong = 0;

  static void hold(boolean holds, String what) {
    if (!holds) {
      wrong++;
      System.out.println("README.md: " + what);
    }
  }

  static List<String> blocks(String text, String language) {
    List<String> found = new ArrayList<>();
    Matcher m = Pattern.compile("(?s)```" + language + "\n(.*?)```").matcher(text);
    while (m.find()) found.add(m.group(1));
    return found;
  }

  /** What a command prints; a line with its exit code behind it, if that isn't 0. */
  static String printed(Path at, String command) throws IOException, InterruptedException {
    Process p = new ProcessBuilder(command.split(" ")).directory(at.toFile()).redirectErrorStream(true).start();
    String out = new String(p.getInputStream().readAllBytes(), StandardCharsets.UTF_8).replace("\r\n", "\n");
    int code = p.waitFor();
    return code == 0 ? out : out + "exit code " + code + "\n";
  }

  static String allPrinted(Path at, String commands) throws IOException, InterruptedException {
    StringBuilder out = new StringBuilder();
    for (String command : commands.strip().split("\n")) out.append(printed(at, command));
    return out.toString();
  }

  static void copy(String name, Path to) throws IOException {
    Files.createDirectories(to.resolve(name).getParent());
    Files.copy(Path.of(name), to.resolve(name));
  }

  static void delete(Path directory) throws IOException {
    List<Path> all;
    try (Stream<Path> found = Files.walk(directory)) {
      all = found.sorted(Comparator.reverseOrder()).toList();
    }
    for (Path p : all) Files.delete(p);
  }

  static void example(String text, Path at) throws IOException, InterruptedException {
    List<String> programs = blocks(text, "java"), shown = blocks(text, "text"), commands = blocks(text, "sh");
    hold(programs.size() == 1 && shown.size() == 1 && commands.size() == 3, "a program, what it prints, and three times commands");
    if (wrong != 0) return;
    Files.writeString(at.resolve("Example.java"), programs.get(0));
    String got = allPrinted(at, commands.get(0));
    hold(got.equals(shown.get(0)), "its program prints\n" + got);
    hold(commands.get(1).equals(".ci/run\n") && Files.isExecutable(Path.of(".ci/run")), "the tests are run by .ci/run");
    got = allPrinted(at, commands.get(2));
    hold(!got.contains("exit code"), "one test alone prints\n" + got);
  }

  static void constants(String text) {
    hold(text.contains("| " + DoubleRootSums.NONE + " | `NONE` |"), "NONE");
    hold(text.contains("| " + DoubleRootSums.BAD + " | `BAD` |"), "BAD");
    hold(text.contains("| " + DoubleRootSums.STATE + " | `STATE` |"), "STATE");
    hold(text.contains("| " + DoubleRootSums.FULL + " | `FULL` |"), "FULL");
    hold(text.contains("| `Long.MIN_VALUE` | `NO` |") && DoubleRootSums.NO == Long.MIN_VALUE, "NO");
  }

  /** The answers without a constant, each by a call that is to be answered so. */
  static void answers(String text) {
    DoubleRootSums x = new DoubleRootSums();
    hold(text.contains("| " + x.put(0, 0, 1) + " | | the list holds nothing |"), "a list that holds nothing");
    x.list(0, 1);
    hold(text.contains("| " + x.put(0, 1, 1) + " | | the list has no such place |"), "no such place");
    hold(text.contains("| " + x.list(0, -1) + " | | a list's size below 0 |"), "a size below 0");
    x.sum(x.support(3), 0, 0);
    hold(x.common(0, 0) == -5 && text.contains("-5, where what was asked for doesn't exist"), "-5");
    hold(x.read() == -100 && text.contains("-100 less a place"), "-100 less the fault");
  }

  static void tests(String text) throws IOException {
    try (Stream<Path> found = Files.list(Path.of(TESTS))) {
      for (Path p : found.toList()) {
        String name = p.getFileName().toString().replace(".java", "");
        hold(text.contains("- `" + name + "`:"), "says nothing of " + name);
      }
    }
  }

  public static void main(String[] args) throws Exception {
    String text = Files.readString(Path.of("README.md"));
    Path at = Files.createTempDirectory("readme");
    try {
      copy(MAIN, at);
      copy(TESTS + "/PromiseTests.java", at);
      example(text, at);
    } finally {
      delete(at);
    }
    constants(text);
    answers(text);
    tests(text);
    System.out.println(wrong == 0 ? "README.md tells how it is" : wrong + " things of README.md are not so");
    if (wrong != 0) System.exit(1);
  }
}
