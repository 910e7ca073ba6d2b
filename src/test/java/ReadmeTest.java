import java.io.IOException;
import java.lang.reflect.Method;
import java.lang.reflect.Modifier;
import java.net.URL;
import java.net.URLClassLoader;
import java.nio.file.Files;
import java.nio.file.Path;
import java.util.ArrayList;
import java.util.List;
import java.util.regex.Matcher;
import java.util.regex.Pattern;

/**
 * What README.md, in the working directory, shows of the class's use: all its java blocks are compiled and run, and
 * each line with a call answers the number that stands behind it. A block that begins with "static" is a method for
 * the others; each other one is a run of its own.
 */
public final class ReadmeTest {
  private static final Pattern CALL = Pattern.compile(
      "((?:int|long) \\w+ = )?((?:hall\\.\\w+|give)\\(.*\\));\\s+// (-?\\d+)(: .*)?");

  private ReadmeTest() {
  }

  /** What the lines of README.md call: holds an answer against the number behind it. */
  public static int answer(String line, long got, long want) {
    Due.due("README.md: " + line, got, want);
    return (int) got;
  }

  private static List<List<String>> blocks(List<String> lines) {
    List<List<String>> blocks = new ArrayList<>();
    List<String> block = null;
    for (String line : lines) {
      if (line.startsWith("```")) {
        block = line.equals("```java") ? new ArrayList<>() : null;
        if (block != null) blocks.add(block);
      } else if (block != null) {
        block.add(line);
      }
    }
    return blocks;
  }

  private static String held(String line) {
    Matcher call = CALL.matcher(line);
    if (call.matches()) {
      String kept = call.group(1) == null ? "" : call.group(1);
      return kept + "ReadmeTest.answer(\"" + line.replace("\"", "\\\"") + "\", " + call.group(2) + ", "
          + call.group(3) + "L);";
    }
    boolean other = line.isEmpty() || line.equals("ClaimHall hall = new ClaimHall();");
    Due.due("README.md tells what this line answers: " + line, other ? 1 : 0, 1);
    return other ? line : "";
  }

  private static String source(List<List<String>> blocks) {
    StringBuilder methods = new StringBuilder();
    StringBuilder runs = new StringBuilder();
    int many = 0;
    for (List<String> block : blocks) {
      if (!block.isEmpty() && block.get(0).startsWith("static ")) {
        methods.append(String.join("\n", block)).append('\n');
        continue;
      }
      methods.append("static void shown").append(many).append("() {\n");
      for (String line : block) methods.append(held(line)).append('\n');
      methods.append("}\n");
      runs.append("shown").append(many).append("();\n");
      many++;
    }
    Due.due("README.md shows runs", many > 0 ? 1 : 0, 1);
    return "public final class Shown {\n" + methods + "public static void main(String[] args) {\n" + runs + "}\n}\n";
  }

  private static void run(String source) throws Exception {
    Path dir = Files.createTempDirectory("readme");
    Path file = dir.resolve("Shown.java");
    Path made = dir.resolve("Shown.class");
    try {
      Files.writeString(file, source);
      int got = new ProcessBuilder("javac", "--release", "17", "-d", dir.toString(), "-cp",
          System.getProperty("java.class.path"), file.toString()).inheritIO().start().waitFor();
      Due.due("README.md compiles", got, 0);
      if (got != 0) return;
      try (URLClassLoader loader = new URLClassLoader(new URL[] {dir.toUri().toURL()})) {
        loader.loadClass("Shown").getMethod("main", String[].class).invoke(null, (Object) new String[0]);
      }
    } finally {
      Files.deleteIfExists(made);
      Files.deleteIfExists(file);
      Files.deleteIfExists(dir);
    }
  }

  /** Each call of the face is shown. */
  private static void showsAll(String source) {
    for (Method m : ClaimHall.class.getDeclaredMethods()) {
      if (Modifier.isPublic(m.getModifiers())) {
        Due.due("README.md shows " + m.getName(), source.contains("hall." + m.getName() + "(") ? 1 : 0, 1);
      }
    }
  }

  private static List<String> readme() throws IOException {
    return Files.readAllLines(Path.of("README.md"));
  }

  public static void main(String[] args) throws Exception {
    String source = source(blocks(readme()));
    showsAll(source);
    run(source);
    Due.end("ReadmeTest");
  }
}
