import java.lang.reflect.Method;
import java.lang.reflect.Modifier;
import java.net.URL;
import java.net.URLClassLoader;
import java.nio.charset.StandardCharsets;
import java.nio.file.Files;
import java.nio.file.Path;
import java.util.ArrayList;
import java.util.Comparator;
import java.util.List;
import java.util.regex.Matcher;
import java.util.regex.Pattern;
import java.util.stream.Stream;
import javax.tools.JavaCompiler;
import javax.tools.ToolProvider;

// README.md's code, compiled and run: each call answers the number with which its comment begins.
public final class ReadmeTest {
  private static final Pattern CODE = Pattern.compile("(?s)```java\n(.*?)```");
  private static final Pattern TOLD = Pattern.compile("(int \\w+ = )?(x\\.\\w+\\(.*?\\)); *// (-?\\d+)\\b.*");
  private static final Pattern NAMED = Pattern.compile("`(\\w+)`");
  private static int wrong = 0;

  private static void check(boolean holds, String what) {
    if (!holds) { wrong++; System.out.println("not so: " + what); }
  }

  // the code as a class whose run() answers what was due and wasn't answered
  private static String program(String readme) {
    StringBuilder b = new StringBuilder("public final class ReadmeCode {\n  public static String run() {\n");
    b.append("    StringBuilder missed = new StringBuilder();\n");
    int calls = 0;
    Matcher code = CODE.matcher(readme);
    while (code.find()) {
      for (String line : code.group(1).split("\n")) {
        Matcher told = TOLD.matcher(line);
        if (!told.matches()) {
          check(!line.contains("//"), "a comment begins with the answer: " + line);
          b.append("    ").append(line).append('\n');
          continue;
        }
        calls++;
        String got = "got" + calls;
        b.append("    int ").append(got).append(" = ").append(told.group(2)).append(";\n");
        if (told.group(1) != null) b.append("    ").append(told.group(1)).append(got).append(";\n");
        b.append("    if (").append(got).append(" != ").append(told.group(3)).append(") missed.append(\"");
        b.append(told.group(2).replace("\"", "'")).append(" answers \").append(").append(got).append(").append('\\n');\n");
      }
    }
    check(calls >= 30, "README.md tells what calls answer: " + calls);
    return b.append("    return missed.toString();\n  }\n}\n").toString();
  }

  private static String run(String program, Path out) throws Exception {
    Path file = out.resolve("ReadmeCode.java");
    Files.writeString(file, program, StandardCharsets.UTF_8);
    JavaCompiler javac = ToolProvider.getSystemJavaCompiler();
    String classes = System.getProperty("java.class.path");
    int ended = javac.run(null, System.out, System.out, "-d", out.toString(), "-cp", classes, file.toString());
    if (ended != 0) return "README.md's code does not compile";
    try (URLClassLoader loader = new URLClassLoader(new URL[] {out.toUri().toURL()})) {
      return (String) loader.loadClass("ReadmeCode").getMethod("run").invoke(null);
    }
  }

  private static void table(String readme) {
    List<String> named = new ArrayList<>();
    for (String line : readme.split("\n")) {
      Matcher name = NAMED.matcher(line);
      while (line.startsWith("| ") && name.find()) named.add(name.group(1));
    }
    List<String> there = new ArrayList<>();
    for (Method method : LeftIsAgreedOn.class.getDeclaredMethods()) {
      if (Modifier.isPublic(method.getModifiers())) there.add(method.getName());
    }
    named.sort(Comparator.naturalOrder());
    there.sort(Comparator.naturalOrder());
    check(named.equals(there), "the table names every call once: " + named + " is not " + there);
  }

  private static void files(String readme) {
    Matcher named = Pattern.compile("`(src/[\\w/.]+)`").matcher(readme);
    while (named.find()) check(Files.exists(Path.of(named.group(1))), "a file that README.md names: " + named.group(1));
  }

  public static void main(String[] args) throws Exception {
    String readme = Files.readString(Path.of("README.md"), StandardCharsets.UTF_8);
    Path out = Files.createTempDirectory("readme");
    try {
      String missed = run(program(readme), out);
      check(missed.isEmpty(), missed);
    } finally {
      try (Stream<Path> made = Files.walk(out)) {
        for (Path path : made.sorted(Comparator.reverseOrder()).toList()) Files.delete(path);
      }
    }
    table(readme);
    files(readme);
    System.out.println(wrong == 0 ? "README.md tells what is so" : wrong + " things that README.md tells are not so");
    if (wrong != 0) System.exit(1);
  }
}
