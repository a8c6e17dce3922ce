import java.lang.reflect.Constructor;
import java.lang.reflect.Field;
import java.lang.reflect.Member;
import java.lang.reflect.Method;
import java.lang.reflect.Modifier;
import java.nio.charset.StandardCharsets;
import java.nio.file.Files;
import java.nio.file.Path;
import java.util.Set;
import java.util.TreeSet;
import java.util.regex.Matcher;
import java.util.regex.Pattern;

// What of LANGUAGE.md can be seen from the source and the compiled face; and that the face is the document's.
public final class RulesTest {
  private static int wrong = 0;

  private static void check(boolean holds, String what) {
    if (!holds) { wrong++; System.out.println("not kept: " + what); }
  }

  // the source without comments and texts
  private static String bare(String source) {
    String without = source.replaceAll("(?s)/\\*.*?\\*/", " ").replaceAll("//[^\n]*", " ");
    return without.replaceAll("\"[^\"\n]*\"", "\"\"").replaceAll("'[^'\n]'", "' '");
  }

  private static String told(Class<?> result, String name, Class<?>[] parameters) {
    StringBuilder b = new StringBuilder(result + " " + name + "(");
    for (Class<?> p : parameters) b.append(p).append(' ');
    return b.append(")").toString();
  }

  private static void face() throws Exception {
    String doc = Files.readString(Path.of("../shared/DOC.md"), StandardCharsets.UTF_8);
    Set<String> wanted = new TreeSet<>();
    Set<String> names = new TreeSet<>();
    Matcher m = Pattern.compile("    public (int|long) (\\w+)\\((.*?)\\);").matcher(doc);
    while (m.find()) {
      StringBuilder b = new StringBuilder(m.group(1) + " " + m.group(2) + "(");
      for (String p : m.group(3).split(", ")) if (!p.isEmpty()) b.append(p.split(" ")[0]).append(' ');
      wanted.add(b.append(")").toString());
      names.add(m.group(2));
    }
    check(wanted.size() == 51, "51 methods are read from the document: " + wanted.size());
    Set<String> there = new TreeSet<>();
    Class<?> c = LeftIsAgreedOn.class;
    for (Method method : c.getDeclaredMethods()) {
      int how = method.getModifiers();
      if (Modifier.isPublic(how)) there.add(told(method.getReturnType(), method.getName(), method.getParameterTypes()));
      else check(Modifier.isPrivate(how), "rule 1: " + method);
      if (Modifier.isPrivate(how)) check(!names.contains(method.getName()), "rule 1: a private method's name: " + method);
    }
    check(there.equals(wanted), "the face: " + there + " is not " + wanted);
    check(Modifier.isPublic(c.getModifiers()) && Modifier.isFinal(c.getModifiers()), "rule 1: public and final");
    check(c.getConstructors().length == 1 && c.getDeclaredConstructors().length == 1, "rule 1: one constructor");
    for (Constructor<?> made : c.getConstructors()) check(made.getParameterCount() == 0, "rule 1: the constructor");
    members(c, names);
    check(c.getDeclaredClasses().length <= 12, "rule 11: classes");
    for (Class<?> inside : c.getDeclaredClasses()) {
      check(Modifier.isStatic(inside.getModifiers()) && !Modifier.isPublic(inside.getModifiers()), "rule 1: " + inside);
      for (Method method : inside.getDeclaredMethods()) check(!names.contains(method.getName()), "rule 1: " + method);
      members(inside, names);
    }
  }

  private static void members(Class<?> c, Set<String> names) {
    int fields = 0;
    for (Field field : c.getDeclaredFields()) {
      int how = field.getModifiers();
      boolean isNone = field.getName().equals("NONE") && c == LeftIsAgreedOn.class;
      check(isNone ? Modifier.isPublic(how) : !Modifier.isPublic(how), "rule 1: " + field);
      check(isNone || c != LeftIsAgreedOn.class || Modifier.isPrivate(how), "rule 1: " + field);
      if (Modifier.isStatic(how)) {
        check(Modifier.isFinal(how), "rule 5: " + field);
        check(field.getType().isPrimitive() || field.getType() == int[].class, "rule 5: " + field);
      } else {
        fields++;
      }
    }
    check(fields <= 20, "rule 11: fields of " + c);
    for (Method method : c.getDeclaredMethods()) check(method.getParameterCount() <= 7, "rule 11: " + method);
  }

  private static void source() throws Exception {
    String source = Files.readString(Path.of("src/main/java/LeftIsAgreedOn.java"), StandardCharsets.ISO_8859_1);
    for (int i = 0; i < source.length(); i++) check(source.charAt(i) < 127, "rule 4: a sign above 126 at " + i);
    String bare = bare(source);
    String[] words = {"throw", "throws", "try", "catch", "finally", "synchronized", "assert", "package", "import",
        "native", "volatile", "transient", "strictfp", "var", "Object", "Random", "Thread", "Class", "Exact\\w*"};
    for (String word : words) {
      check(!Pattern.compile("\\b" + word + "\\b").matcher(bare).find(), "a word that the rules leave out: " + word);
    }
    check(!bare.contains("->") && !bare.contains("::"), "rule 2: no lambda, no method reference");
    check(!Pattern.compile("static\\s*\\{").matcher(bare).find(), "rule 5: no static initialiser block");
    check(!Pattern.compile("\"\\s*\\+|\\+\\s*\"").matcher(bare).find(), "rule 10: no joining by +");
    check(!Pattern.compile("while\\s*\\(true\\)|for\\s*\\(;;").matcher(bare).find(), "rule 9: loops have ends");
    Matcher calls = Pattern.compile("\\b([A-Z]\\w*)\\.(\\w+)\\(").matcher(bare);
    Set<String> library = Set.of("Math.max", "Integer.bitCount", "System.arraycopy", "Walker.cellOf");
    while (calls.find()) check(library.contains(calls.group(1) + "." + calls.group(2)), "rule 4: " + calls.group());
    long longest = 0, started = 0;
    String[] lines = source.split("\n");
    for (int i = 0; i < lines.length; i++) {
      if (lines[i].matches(" {4,8}\\S.*\\) \\{")) started = i;
      if (lines[i].matches(" {4,8}\\}")) longest = Math.max(longest, i - started + 1);
    }
    check(longest > 20 && longest <= 60, "rule 11: a method of " + longest + " lines");
  }

  // the room of one run: objects and elements are counted by the bytes that the dearest calls take
  private static void room() {
    com.sun.management.ThreadMXBean bean =
        (com.sun.management.ThreadMXBean) java.lang.management.ManagementFactory.getThreadMXBean();
    long sum = 0;
    long most = 0;
    for (int time = 0; time < 5; time++) {
      long ahead = bean.getThreadAllocatedBytes(Thread.currentThread().getId());
      LeftIsAgreedOn x = new LeftIsAgreedOn();
      for (int person = 0; person < 8; person++) sum += x.person(person % 6, 5, 22, 0);
      for (int call = 0; call < 20; call++) {
        sum += x.safe(call % 8, 40, 0, LeftIsAgreedOn.NONE) + x.reach(call % 8, 6) + x.row(0, 3, 40);
        sum += x.ponds(0, 40, 4) + x.again(0, 40, 2, 20) + x.waits(0, 40, 1, 0, 40, 2) + x.mightiest() + x.turn(0);
        sum += x.image() + x.back() + x.years(60) + x.feed(112) + x.island() + x.crowd(0, 40, 0) + x.show(1, 1);
      }
      most = Math.max(time == 0 ? 0 : most, bean.getThreadAllocatedBytes(Thread.currentThread().getId()) - ahead);
    }
    check(sum != 0 && most > 0 && most < 60000, "the room: " + most + " bytes");
  }

  public static void main(String[] args) throws Exception {
    face();
    source();
    room();
    System.out.println(wrong == 0 ? "all rules that were looked at are kept" : wrong + " rules are not kept");
    if (wrong != 0) System.exit(1);
  }
}
