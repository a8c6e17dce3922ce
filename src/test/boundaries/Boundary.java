import java.io.IOException;
import java.nio.charset.StandardCharsets;
import java.nio.file.Files;
import java.nio.file.Path;
import java.util.ArrayList;
import java.util.BitSet;
import java.util.List;
import java.util.Map;
import java.util.TreeMap;
import java.util.regex.Pattern;

// What the tests of boundary cases share: the sentence of the document that is looked at, objects
// made alike, and calls that must change nothing.
abstract class Boundary {
  static final int NONE = -1, BAD = -2, OTHER = -3, NOTHING = -4, STUCK = -5, FULL = -6;
  static final int MIN = Integer.MIN_VALUE, MAX = Integer.MAX_VALUE;

  interface Call { long by(LeftIsAgreedOn x); }
  interface Maker { LeftIsAgreedOn make(); }

  private static final String DOC = document();
  private static final BitSet QUOTED = new BitSet();
  // by promise: the refusals that a test met, as bits
  private static final Map<Integer, Integer> MET = new TreeMap<>();
  private static int promise = 0;
  private static String sentence = "";
  private static int asked = 0;
  private static int wrong = 0;

  private static String document() {
    try {
      return Files.readString(Path.of("../shared/DOC.md"), StandardCharsets.UTF_8);
    } catch (IOException e) {
      throw new IllegalStateException("../shared/DOC.md can't be read", e);
    }
  }

  // ---- the sentence that is looked at

  static void terms(String words) {
    promise = 0;
    quote("## Terms\n", words);
  }

  static void promise(int number, String words) {
    promise = number;
    quote("## Promise " + number + ":", words);
  }

  static void opening(String words) {
    promise = 0;
    quote("## What it is\n", words);
  }

  private static void quote(String heading, String words) {
    sentence = words;
    int begin = DOC.indexOf(heading);
    int end = DOC.indexOf("\n## ", begin + 1);
    int at = DOC.indexOf(words, begin);
    if (begin < 0 || at < 0 || at + words.length() > end) {
      fail("no such sentence under " + heading.trim());
    } else {
      QUOTED.set(at, at + words.length());
    }
  }

  private static void fail(String what) {
    wrong++;
    int line = StackWalker.getInstance().walk(frames -> frames
        .filter(f -> !f.getClassName().equals("Boundary")).findFirst().map(f -> f.getLineNumber()).orElse(0));
    String file = StackWalker.getInstance().walk(frames -> frames
        .filter(f -> !f.getClassName().equals("Boundary")).findFirst().map(f -> f.getFileName()).orElse(""));
    System.out.println(file + ":" + line + " (" + (promise == 0 ? "" : promise + ", ") + sentence + "): " + what);
  }

  // ---- answers

  static void due(long got, long want) {
    asked++;
    if (got != want) fail("answered " + got + ", due is " + want);
  }

  static void due(String got, String want) {
    asked++;
    if (!got.equals(want)) fail("answered " + got + ", due is " + want);
  }

  // the call answers so on an object that was made so, and changes nothing, nor is it refused
  static void asks(Maker maker, Call call, long want) {
    LeftIsAgreedOn x = maker.make();
    due(call.by(x), want);
    unchanged(x, maker.make(), 0);
  }

  // the call is refused with the number, and nothing changes but how many such refusals there were
  static void refused(Maker maker, Call call, int number) {
    LeftIsAgreedOn x = maker.make();
    due(call.by(x), number);
    unchanged(x, maker.make(), number);
    MET.merge(promise, 1 << -number, (a, b) -> a | b);
  }

  static void unchanged(LeftIsAgreedOn x, LeftIsAgreedOn twin, int refusal) {
    for (int number = BAD; number >= FULL; number--) {
      due(x.status(10 - number), twin.status(10 - number) + (number == refusal ? 1 : 0));
    }
    alike(x, twin);
  }

  static void alike(LeftIsAgreedOn x, LeftIsAgreedOn twin) {
    asked++;
    List<Long> had = all(x), has = all(twin);
    if (!had.equals(has)) fail("something was changed: " + had + " is not " + has);
  }

  // all that can be seen but the refusals; the tape and the image are used up by it
  private static List<Long> all(LeftIsAgreedOn x) {
    List<Long> seen = new ArrayList<>();
    world(x, seen);
    for (int s = 0; s < 8; s++) for (int i : new int[] {0, 1, 39}) seen.add(x.element(s, i));
    for (int what = 8; what <= 10; what++) seen.add((long) x.status(what));
    seen.add((long) x.island());
    for (int what = 0; what <= 5; what++) seen.add((long) x.status(what));
    seen.add((long) x.back());
    world(x, seen);
    return seen;
  }

  private static void world(LeftIsAgreedOn x, List<Long> seen) {
    for (int what = 0; what <= 7; what++) seen.add((long) x.status(what));
    int people = x.status(0);
    for (int person = 0; person < people; person++) {
      for (int what = 0; what < 5; what++) seen.add((long) x.personOf(person, what));
    }
    int side = x.status(1);
    for (int cell = 0; cell < 10 * side; cell++) if (cell % 10 < side) seen.add((long) x.isPond(cell));
    for (int s = 0; s < 8; s++) seen.add((long) x.holds(s));
  }

  // ---- objects

  static LeftIsAgreedOn fresh() {
    return new LeftIsAgreedOn();
  }

  static void feed(LeftIsAgreedOn x, String text) {
    for (int i = 0; i < text.length(); i++) x.feed(text.charAt(i));
  }

  // the rows: a SHELF's number, then o on, l left, r right, w wait; anything else is no SIGN
  static LeftIsAgreedOn on(String text, String... rows) {
    LeftIsAgreedOn x = new LeftIsAgreedOn();
    feed(x, text);
    if (x.island() < 0) fail("the test's own island is refused: " + text);
    for (String row : rows) row(x, row.charAt(0) - '0', row.substring(1));
    return x;
  }

  static void row(LeftIsAgreedOn x, int s, String signs) {
    x.row(s, 0, signs.length());
    for (int i = 0; i < signs.length(); i++) x.set(s, i, "olrw".indexOf(signs.charAt(i)));
  }

  // three people, kinds 0, 1, 4; SHELVES: 0, 5 nothing; 1, 6 people 1, 2; 2 "ol?"; 3 no element; 4 two longs;
  // 7 forty ons but the last; an image of less, and the start of a text
  static LeftIsAgreedOn some() {
    LeftIsAgreedOn x = on("pond 13;person 0 3 22 0;person 1 2 11 1;is 1 1;left 1;doubt 5", "2ol?", "7o");
    x.image();
    x.person(4, 4, 12, 1);
    x.walk(7, 1, 2);
    x.seed(77);
    x.years(1);
    x.pond(44, true);
    x.tell(1, 0);
    x.show(1, 1);
    x.show(6, 2);
    x.row(3, 3, 0);
    x.row(4, 3, 2);
    x.set(4, 1, 1L << 40);
    x.row(7, 2, 40);
    x.set(7, 39, 1);
    feed(x, "side 6");
    return x;
  }

  // eight people, a tape that is full, a row on each SHELF but the last one
  static LeftIsAgreedOn full() {
    LeftIsAgreedOn x = new LeftIsAgreedOn();
    for (int person = 0; person < 8; person++) x.person(person % 6, person + 1, 22, person % 4);
    x.pond(44, true);
    for (int s = 0; s < 7; s++) x.row(s, s % 5, s);
    for (int i = 0; i < 250; i++) x.feed(i < 6 ? "side 6".charAt(i) : ' ');
    return x;
  }

  // ---- whether all boundary cases were looked at

  static int end() {
    everySentenceIsQuoted();
    everyRefusalIsMet();
    System.out.println(wrong == 0 ? "all " + asked + " answers are as due" : wrong + " of " + asked + " are not as due");
    return wrong == 0 ? 0 : 1;
  }

  // of each line of the terms and the promises, but headings and how a call is written
  private static void everySentenceIsQuoted() {
    int end = DOC.indexOf("## Not promised");
    for (int line = DOC.indexOf("## Terms"); line < end; line = DOC.indexOf('\n', line) + 1) {
      int behind = DOC.indexOf('\n', line);
      boolean isHeading = DOC.startsWith("#", line) || DOC.startsWith("====", line) || DOC.startsWith("```", line);
      int told = DOC.startsWith("`", line) ? DOC.indexOf("`: ", line) + 3 : line;
      for (int i = told; i < behind && !isHeading; i++) {
        if (Character.isLetterOrDigit(DOC.charAt(i)) && !QUOTED.get(i)) {
          wrong++;
          System.out.println("no test looks at: " + DOC.substring(i, behind));
          break;
        }
      }
    }
  }

  private static void everyRefusalIsMet() {
    String[] words = {"", "", "BAD", "OTHER", "NOTHING", "STUCK", "FULL"};
    for (int number = 1; number <= 52; number++) {
      int begin = DOC.indexOf("## Promise " + number + ":");
      String text = DOC.substring(begin, DOC.indexOf("\n## ", begin + 1));
      int told = text.indexOf("`: ");
      for (int r = 2; r < words.length; r++) {
        boolean is = Pattern.compile("\\b" + words[r] + "\\b").matcher(text.substring(told)).find();
        boolean isAnswer = r == 4 && (number == 1 || number == 6 || number == 7 || number == 51);
        if (is && !isAnswer && (MET.getOrDefault(number, 0) >> r & 1) == 0) {
          wrong++;
          System.out.println("no test meets the refusal " + words[r] + " of promise " + number);
        }
      }
    }
  }
}
