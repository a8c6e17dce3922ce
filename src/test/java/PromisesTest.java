// For each promise of the document: ordinary calls, its edges, and wrong calls, worked out by hand.
public final class PromisesTest {
  private static final int NONE = -1, BAD = -2, OTHER = -3, NOTHING = -4, STUCK = -5, FULL = -6;
  private static final int MIN = Integer.MIN_VALUE, MAX = Integer.MAX_VALUE;
  private static int wrong = 0;
  private static int asked = 0;

  private static void due(int promise, String call, long got, long want) {
    asked++;
    if (got != want) {
      wrong++;
      System.out.println("promise " + promise + ": " + call + " answered " + got + ", due is " + want);
    }
  }

  private static LeftIsAgreedOn on(String text) {
    LeftIsAgreedOn x = new LeftIsAgreedOn();
    int answer = read(x, text);
    if (answer < 0) { wrong++; System.out.println("the test's own island is refused: " + text + ": " + answer); }
    return x;
  }

  private static int read(LeftIsAgreedOn x, String text) {
    for (int i = 0; i < text.length(); i++) x.feed(text.charAt(i));
    return x.island();
  }

  // o on, l left, r right, w wait, anything else is no SIGN
  private static void row(LeftIsAgreedOn x, int s, String signs) {
    x.row(s, 0, signs.length());
    for (int i = 0; i < signs.length(); i++) x.set(s, i, "olrw".indexOf(signs.charAt(i)));
  }

  // the refusals that all calls by (s, n) share
  private interface Call { long by(LeftIsAgreedOn x, int s, int n); }

  private static void sharedRefusals(int promise, String name, Call call) {
    LeftIsAgreedOn x = on("person 0 1 22 0;person 1 2 11 1");
    x.show(1, 0);
    row(x, 2, "ol?");
    row(x, 3, "");
    due(promise, name + " no such shelf", call.by(x, -1, 0), BAD);
    due(promise, name + " no such shelf", call.by(x, 8, 0), BAD);
    due(promise, name + " no such shelf", call.by(x, MIN, 0), BAD);
    due(promise, name + " n", call.by(x, 2, -1), BAD);
    due(promise, name + " n", call.by(x, 2, 41), BAD);
    due(promise, name + " n", call.by(x, 1, MAX), BAD);
    due(promise, name + " n ahead of one of the people", call.by(x, 1, 41), BAD);
    due(promise, name + " n ahead of nothing", call.by(x, 0, 41), BAD);
    due(promise, name + " n ahead of nothing", call.by(x, 0, -1), BAD);
    due(promise, name + " one of the people", call.by(x, 1, 0), OTHER);
    due(promise, name + " one of the people", call.by(x, 1, 40), OTHER);
    due(promise, name + " nothing", call.by(x, 0, 0), NOTHING);
    due(promise, name + " nothing", call.by(x, 0, 40), NOTHING);
    due(promise, name + " fewer elements", call.by(x, 2, 4), BAD);
    due(promise, name + " fewer elements", call.by(x, 3, 1), BAD);
    due(promise, name + " no sign", call.by(x, 2, 3), promise == 46 ? 2 : STUCK);
    due(promise, name + " the counts", x.status(12), 11);
    due(promise, name + " the counts", x.status(13), 2);
    due(promise, name + " the counts", x.status(14), 2);
    due(promise, name + " the counts", x.status(15), promise == 46 ? 0 : 1);
    boolean fine = call.by(x, 2, 2) >= NONE && call.by(x, 3, 0) >= NONE;
    due(promise, name + " is taken", fine ? 1 : 0, 1);
    due(promise, name + " the counts", x.status(12) + x.status(13) + x.status(14), 15);
  }

  private static void p1to8() {
    LeftIsAgreedOn x = new LeftIsAgreedOn();
    int[] first = {0, 5, 0, 0, 3, 0, 0, 0, 0, 1, 0, -1, 0, 0, 0, 0, 0, -1};
    for (int what = 0; what < first.length; what++) due(1, "status(" + what + ")", x.status(what), first[what]);
    for (int s = 0; s < 8; s++) due(1, "holds", x.holds(s), NONE);
    due(1, "NONE", LeftIsAgreedOn.NONE, -1);

    due(2, "row(0, 4, 40)", x.row(0, 4, 40), 1);
    due(2, "row(7, 0, 0)", x.row(7, 0, 0), 1);
    due(2, "row(8, 0, 0)", x.row(8, 0, 0), BAD);
    due(2, "row(-1, 0, 0)", x.row(-1, 0, 0), BAD);
    due(2, "row(0, 5, 0)", x.row(0, 5, 0), BAD);
    due(2, "row(0, -1, 0)", x.row(0, -1, 0), BAD);
    due(2, "row(0, 0, 41)", x.row(0, 0, 41), BAD);
    due(2, "row(0, 0, -1)", x.row(0, 0, -1), BAD);
    due(2, "holds(0)", x.holds(0), 4);
    due(2, "status(12)", x.status(12), 6);
    x.set(0, 39, 5);
    x.row(0, 4, 40);
    due(2, "a new row's element", x.element(0, 39), 0);
    for (int s = 1; s < 4; s++) { x.row(s, 3, 6); x.set(s, 0, 7); x.set(s, 5, 8); }
    x.row(2, 3, 6);
    due(2, "a new row's elements", x.element(2, 0) + x.element(2, 5), 0);
    due(2, "the shelves beside it", x.element(1, 0) + x.element(1, 5) + x.element(3, 0) + x.element(3, 5), 30);

    long v = 0x123456789ABCDEF0L + 0x8F;
    long[] lowest = {(byte) v, (short) v, (int) v, v, 1};
    for (int sort = 0; sort < 5; sort++) {
      x.row(sort, sort, 3);
      due(3, "set sort " + sort, x.set(sort, 1, v), 1);
      due(3, "its element", x.element(sort, 1), lowest[sort]);
      due(3, "the one beside", x.element(sort, 0) + x.element(sort, 2), 0);
      due(3, "set 256", x.set(sort, 2, 256), 1);
      due(3, "256 kept", x.element(sort, 2), sort == 0 ? 0 : sort == 4 ? 1 : 256);
    }
    due(3, "set(4, 1, 0)", x.set(4, 1, 0), 1);
    due(3, "not so", x.element(4, 1), 0);
    due(3, "set(-1, 0, 0)", x.set(-1, 0, 0), BAD);
    due(3, "set(8, 0, 0)", x.set(8, 0, 0), BAD);
    due(3, "set(0, 3, 0)", x.set(0, 3, 0), BAD);
    due(3, "set(0, -1, 0)", x.set(0, -1, 0), BAD);
    due(3, "set(6, 0, 0)", x.set(6, 0, 0), NOTHING);
    due(3, "set(6, -5, 0)", x.set(6, -5, 0), NOTHING);
    x.person(3, 4, 22, 0);
    x.show(6, 0);
    due(3, "set(6, 0, 0)", x.set(6, 0, 0), OTHER);
    due(3, "set(6, -1, 0)", x.set(6, -1, 0), OTHER);

    p4();
    p5to7();
    p8();
  }

  private static void p4() {
    LeftIsAgreedOn x = on("person 0 1 22 0");
    x.row(0, 2, 5);
    x.row(1, 2, 3);
    x.row(2, 3, 3);
    x.show(3, 0);
    for (int i = 0; i < 5; i++) x.set(0, i, 10 + i);
    due(4, "copy(0, 1, 1, 0, 3)", x.copy(0, 1, 1, 0, 3), 3);
    due(4, "element", x.element(1, 0) * 10000 + x.element(1, 1) * 100 + x.element(1, 2), 111213);
    due(4, "onto itself", x.copy(0, 0, 0, 1, 4), 4);
    due(4, "as they were", x.element(0, 0) * 10000 + x.element(0, 1) * 100 + x.element(0, 4), 101013);
    due(4, "back onto itself", x.copy(0, 0, 1, 0, 4), 4);
    due(4, "as they were", x.element(0, 0) * 10000 + x.element(0, 3) * 100 + x.element(0, 4), 101313);
    due(4, "from another shelf", x.copy(1, 0, 1, 0, 2), 2);
    due(4, "element", x.element(0, 0) * 10000 + x.element(0, 1) * 100 + x.element(0, 2), 121312);
    due(4, "none at the ends", x.copy(0, 1, 5, 3, 0), 0);
    due(4, "none behind the end", x.copy(0, 1, 6, 3, 0), BAD);
    due(4, "none behind the other's end", x.copy(0, 1, 5, 4, 0), BAD);
    due(4, "too many here", x.copy(0, 1, 3, 0, 3), BAD);
    due(4, "too many there", x.copy(0, 1, 0, 1, 3), BAD);
    due(4, "n", x.copy(0, 1, 0, 0, -1), BAD);
    due(4, "n", x.copy(0, 1, 0, 0, MAX), BAD);
    due(4, "i", x.copy(0, 1, -1, 0, 1), BAD);
    due(4, "i", x.copy(0, 1, MAX, 0, 1), BAD);
    due(4, "j", x.copy(0, 1, 0, -1, 1), BAD);
    due(4, "j", x.copy(0, 1, 0, MIN, 1), BAD);
    due(4, "p", x.copy(8, 1, 0, 0, 1), BAD);
    due(4, "q, ahead of other", x.copy(3, -1, 0, 0, 1), BAD);
    due(4, "two sorts", x.copy(0, 2, 0, 0, 1), OTHER);
    due(4, "two sorts ahead of bad n", x.copy(2, 0, 0, 0, -1), OTHER);
    due(4, "one of the people", x.copy(3, 0, 0, 0, 1), OTHER);
    due(4, "to one of the people", x.copy(0, 3, 0, 0, 1), OTHER);
    due(4, "one twice", x.copy(3, 3, 0, 0, 0), OTHER);
    due(4, "one and nothing", x.copy(3, 4, 0, 0, 0), OTHER);
    due(4, "nothing and one", x.copy(4, 3, 0, 0, 0), OTHER);
    due(4, "nothing", x.copy(4, 0, -1, 0, 0), NOTHING);
    due(4, "to nothing", x.copy(0, 4, 0, 0, 0), NOTHING);
    due(4, "both nothing", x.copy(4, 5, 0, 0, 0), NOTHING);
    due(4, "the counts", x.status(12) * 100 + x.status(13) * 10 + x.status(14), 1200 + 70 + 3);
  }

  private static void p5to7() {
    LeftIsAgreedOn x = on("person 0 1 22 0;person 1 1 22 0;person 1 1 22 0");
    x.row(0, 3, 2);
    x.set(0, 1, Long.MIN_VALUE);
    due(5, "element(0, 1)", x.element(0, 1), Long.MIN_VALUE);
    due(5, "element(0, 2)", x.element(0, 2), 0);
    due(5, "element(0, -1)", x.element(0, -1), 0);
    due(5, "element(0, MAX)", x.element(0, MAX), 0);
    due(5, "element(-1, 1)", x.element(-1, 1), 0);
    due(5, "element(8, 1)", x.element(8, 1), 0);
    due(5, "element(1, 0)", x.element(1, 0), 0);
    x.row(1, 3, 2);
    x.set(1, 0, 7);
    x.show(1, 2);
    due(5, "element of one", x.element(1, 0), 0);
    due(6, "holds(1)", x.holds(1), 12);
    for (int sort = 0; sort < 5; sort++) { x.row(2, sort, 0); due(6, "holds(2)", x.holds(2), sort); }
    due(6, "holds(3)", x.holds(3), NONE);
    due(6, "holds(-1)", x.holds(-1), NONE);
    due(6, "holds(8)", x.holds(8), NONE);
    due(6, "nothing is refused", x.status(12) + x.status(13) + x.status(14), 0);
    due(7, "show(0, 0)", x.show(0, 0), 1);
    due(7, "holds(0)", x.holds(0), 10);
    due(7, "show(0, 3)", x.show(0, 3), BAD);
    due(7, "show(0, -2)", x.show(0, -2), BAD);
    due(7, "show(8, 0)", x.show(8, 0), BAD);
    due(7, "show(-1, NONE)", x.show(-1, NONE), BAD);
    due(7, "holds(0) still", x.holds(0), 10);
    due(7, "show(0, NONE)", x.show(0, NONE), 1);
    due(7, "holds(0)", x.holds(0), NONE);
    due(7, "show(2, NONE)", x.show(2, NONE), 1);
    due(7, "status(10)", x.status(10), 1);
    due(7, "status(12)", x.status(12), 4);
  }

  private static void p8() {
    // by each kind: a, then what he faces behind one left (LEFT 1, OLD 0, for 0; 13 is a pond)
    LeftIsAgreedOn x = on("left 1;pond 13;person 0 9 22 1;person 1 8 22 1;person 2 7 22 1;"
        + "person 3 6 22 1;person 4 5 12 1;person 5 4 22 1");
    int[] above = {-1, 0, 0, 1, 2, 0};
    int[] faces = {2, 0, 2, 0, 0, 2};
    for (int person = 0; person < 6; person++) {
      x.show(3, person);
      for (int kind = 0; kind < 6; kind++) {
        boolean isUnder = kind == person || kind == above[person] || kind == 0;
        long want = !isUnder ? OTHER : kind == 0 ? 9 - person : faces[person];
        due(8, "says(3, " + kind + ") of kind " + person, x.says(3, kind), want);
      }
    }
    due(8, "shelf", x.says(8, 0), BAD);
    due(8, "shelf", x.says(-1, 0), BAD);
    due(8, "kind", x.says(3, 6), BAD);
    due(8, "kind", x.says(3, -1), BAD);
    due(8, "kind ahead of nothing", x.says(0, 6), BAD);
    due(8, "nothing", x.says(0, 0), NOTHING);
    x.row(0, 0, 1);
    due(8, "a row", x.says(0, 0), OTHER);
  }

  private static void p9to14() {
    LeftIsAgreedOn x = new LeftIsAgreedOn();
    due(9, "side(4)", x.side(4), BAD);
    due(9, "side(5)", x.side(5), 5);
    due(9, "side(6)", x.side(6), 5);
    due(9, "side(5)", x.side(5), BAD);
    due(9, "side(8)", x.side(8), BAD);
    due(9, "side(7)", x.side(7), 6);
    due(9, "isPond(66)", x.isPond(66), 0);
    due(9, "isPond(67)", x.isPond(67), BAD);
    due(9, "isPond(70)", x.isPond(70), BAD);

    x = on("person 0 1 22 0");
    due(10, "pond(21, true)", x.pond(21, true), 0);
    due(10, "pond(21, true)", x.pond(21, true), 1);
    due(10, "pond(21, false)", x.pond(21, false), 1);
    due(10, "pond(21, false)", x.pond(21, false), 0);
    due(10, "pond(22, true)", x.pond(22, true), STUCK);
    due(10, "pond(22, false)", x.pond(22, false), 0);
    for (int cell : new int[] {-1, 5, 15, 45, 50, 100, MIN, MAX}) {
      due(10, "pond(" + cell + ")", x.pond(cell, true), BAD);
      due(19, "isPond(" + cell + ")", x.isPond(cell), BAD);
    }
    x.pond(44, true);
    due(19, "isPond(44)", x.isPond(44), 1);
    due(19, "isPond(43)", x.isPond(43), 0);

    due(11, "person on a pond", x.person(0, 0, 44, 0), STUCK);
    due(11, "kind", x.person(6, 0, 0, 0), BAD);
    due(11, "kind", x.person(-1, 0, 0, 0), BAD);
    due(11, "a", x.person(0, 10, 0, 0), BAD);
    due(11, "a", x.person(0, -1, 0, 0), BAD);
    due(11, "cell", x.person(0, 0, 5, 0), BAD);
    due(11, "faces", x.person(0, 0, 0, 4), BAD);
    due(11, "faces ahead of a pond", x.person(0, 0, 44, -1), BAD);
    for (int person = 1; person < 8; person++) due(11, "person", x.person(5, 9, 22, 3), person);
    due(11, "no room", x.person(0, 0, 0, 0), FULL);
    due(11, "a pond ahead of no room", x.person(0, 0, 44, 0), STUCK);
    due(11, "bad ahead of no room", x.person(0, 0, 0, 4), BAD);
    due(11, "status(16)", x.status(16), 1);
    due(11, "status(0)", x.status(0), 8);

    due(12, "tell(0, 1)", x.tell(0, 1), 0);
    due(12, "tell(0, 0)", x.tell(0, 0), 1);
    due(12, "tell(1, 1)", x.tell(1, 1), 0);
    due(12, "tell(1, 1)", x.tell(1, 1), 1);
    due(12, "tell(2, 12)", x.tell(2, 12), 3);
    due(12, "tell(2, 0)", x.tell(2, 0), 12);
    int[][] bad = {{0, 2}, {0, -1}, {1, 2}, {1, -1}, {2, 13}, {2, -1}, {3, 0}, {-1, 0}};
    for (int[] b : bad) due(12, "tell(" + b[0] + ", " + b[1] + ")", x.tell(b[0], b[1]), BAD);
    due(12, "what stands", x.status(2) * 1000 + x.status(3) * 100 + x.status(4), 100);

    due(13, "isFor(7, 1)", x.isFor(7, 1), 0);
    due(13, "isFor(7, 0)", x.isFor(7, 0), 1);
    due(13, "isFor(8, 0)", x.isFor(8, 0), BAD);
    due(13, "isFor(-1, 0)", x.isFor(-1, 0), BAD);
    due(13, "isFor(0, 2)", x.isFor(0, 2), BAD);
    due(13, "isFor(0, -1)", x.isFor(0, -1), BAD);

    due(14, "put(7, 0, 1)", x.put(7, 0, 1), 22);
    due(14, "put(7, 3, 2)", x.put(7, 3, 2), 0);
    due(14, "put(7, 44, 2)", x.put(7, 44, 2), STUCK);
    due(14, "put(7, 44, 4)", x.put(7, 44, 4), BAD);
    due(14, "put(8, 0, 0)", x.put(8, 0, 0), BAD);
    due(14, "put(0, 50, 0)", x.put(0, 50, 0), BAD);
    due(14, "put(0, 0, -1)", x.put(0, 0, -1), BAD);
    due(14, "where he is", x.personOf(7, 2) * 10 + x.personOf(7, 3), 32);
  }

  private static void p15to17() {
    LeftIsAgreedOn x = new LeftIsAgreedOn();
    due(15, "feed(256)", x.feed(256), BAD);
    due(15, "feed(-1)", x.feed(-1), BAD);
    for (int i = 1; i <= 250; i++) due(15, "feed", x.feed(i % 256), i);
    due(15, "feed(0)", x.feed(0), FULL);
    due(15, "feed(256)", x.feed(256), BAD);
    due(15, "status(8)", x.status(8), 250);
    due(15, "feed(255)", new LeftIsAgreedOn().feed(255), 1);
    due(15, "feed(0)", new LeftIsAgreedOn().feed(0), 1);
    due(16, "wipe()", x.wipe(), 250);
    due(16, "wipe()", x.wipe(), 0);
    due(16, "status(8)", x.status(8), 0);

    String[][] texts = {
        {"", "-20"}, {"   ", "-23"}, {";", "-20"}, {"side 5", "1"}, {"side7", "1"}, {"  side  7  ", "1"},
        {"side 5;", "-27"}, {"side 5; ", "-28"}, {"side 5;;side 6", "-27"}, {"side", "-24"}, {"side ", "-25"},
        {"side 05", "1"}, {"side 005", "-25"}, {"side 99999999999999", "-25"}, {"side 6;side 5", "-32"},
        {"side 2", "-25"}, {"side x", "-25"}, {"side ;", "-25"}, {"side 5 6", "-27"}, {"side 5 side 6", "-27"},
        {"sides 5", "-20"}, {"sid 5", "-20"}, {"Side 5", "-20"}, {"hide 5", "-20"}, {"side 8", "-25"}, {"left 0;old 0;doubt 0", "3"}, {"side5;Pond 1", "-26"}, {"5", "-20"},
        {"side 5!", "-26"}, {"side\t5", "-24"}, {"side 5\n", "-26"}, {"side 6;pond 55", "2"},
        {"pond 55;side 6", "-25"}, {"pond 100", "-25"}, {"pond 000", "-25"}, {"pond 00", "1"}, {"pond 9", "-25"},
        {"dry 44", "1"}, {"dry 45", "-24"}, {"pond 3;dry 3;person 0 0 3 0", "3"}, {"pond 3;person 0 0 3 0", "-38"},
        {"person 0 0 3 0;dry 3", "2"}, {"person 0 0 3 0;pond 3", "-40"}, {"person 5 9 44 3", "1"},
        {"person 6 0 0 0", "-27"}, {"person 0 10 0 0", "-29"}, {"person 0 0 5 0", "-31"}, {"person 0 0 0 4", "-33"},
        {"person 0 0 0", "-32"}, {"person0 0 0;0", "-31"}, {"person 0000", "-27"}, {"person 0 00 00 00", "1"},
        {"is 0 1", "-23"}, {"person 0 0 0 0;is 0 1", "2"}, {"person 0 0 0 0;is 1 1", "-38"},
        {"person 0 0 0 0;is 0 2", "-40"}, {"left 1;old 1;doubt 12", "3"}, {"left 2", "-25"}, {"old 2", "-24"},
        {"doubt 13", "-26"}, {"left1old1", "-25"}, {"left 0 1", "-27"}, {"is", "-22"}, {"doubt 3;left", "-32"},
    };
    for (String[] t : texts) {
      x = new LeftIsAgreedOn();
      due(17, "island() of '" + t[0] + "'", read(x, t[0]), Integer.parseInt(t[1]));
      due(17, "the tape behind it", x.status(8), 0);
      due(17, "refused", x.status(12), t[1].charAt(0) == '-' ? 1 : 0);
    }

    x = on("left 1;doubt 5");
    due(17, "all or nothing", read(x, "side 7;pond 6;person 3 3 4 1;is 0 1;left 0;old 1;doubt 9;old 2"), -81);
    due(17, "nothing", x.status(0) * 100000 + x.status(1) * 10000 + x.status(2) * 1000 + x.status(3) * 100
        + x.status(4) * 10 + x.status(5), 51050);
    due(17, "all", read(x, "side 7;pond 6;person 3 8 4 1;is 0 1;left 0;old 1;doubt 9"), 7);
    due(17, "all", x.status(0) * 100000 + x.status(1) * 10000 + x.status(2) * 1000 + x.status(3) * 100
        + x.status(4) * 10 + x.status(5), 170191);
    due(17, "the person", x.personOf(0, 0) * 10000 + x.personOf(0, 1) * 1000 + x.personOf(0, 2) * 100
        + x.personOf(0, 3) * 10 + x.personOf(0, 4), 38411);
    StringBuilder many = new StringBuilder("person 0 0 0 0");
    for (int i = 0; i < 6; i++) many.append(";person 0 0 0 0");
    due(17, "seven more", read(x, many.toString()), 7);
    due(17, "the last one", read(x, "is 7 1"), 1);
    due(17, "the last one", x.personOf(7, 4), 1);
    due(17, "none behind the last one", read(x, "is 8 1"), -23);
    due(17, "no room: its word", read(x, "left 1; person 0 0 0 0"), -28);
    due(17, "no room: its word though what follows is bad", read(x, "person x"), -20);
    due(17, "nothing came", x.status(2), 0);
    due(17, "who is there", x.status(0), 8);
  }

  private static void p18() {
    LeftIsAgreedOn x = on("person 2 3 22 3;person 4 2 11 1;person 0 1 33 0;is 1 1");
    // of 6, more than half is 4 on: 3 swings {2}, {1}, {2,1}; 2 swings {3}; 1 swings {3}
    int[][] of = {{2, 3, 22, 3, 0, 3}, {4, 2, 11, 1, 1, 1}, {0, 1, 33, 0, 0, 1}};
    for (int person = 0; person < 3; person++) {
      for (int what = 0; what < 6; what++) {
        due(18, "personOf(" + person + ", " + what + ")", x.personOf(person, what), of[person][what]);
      }
    }
    due(18, "what", x.personOf(0, 6), BAD);
    due(18, "what", x.personOf(0, -1), BAD);
    due(18, "person", x.personOf(3, 0), BAD);
    due(18, "person", x.personOf(-1, 0), BAD);
    x = on("person 0 4 0 0");
    due(18, "alone", x.personOf(0, 5), 1);
  }

  private static void p20() {
    sharedRefusals(20, "comes", (x, s, n) -> x.comes(s, n, 0, 0));
    LeftIsAgreedOn x = on("pond 13;person 0 1 22 0");
    row(x, 0, "oolw");
    due(20, "cell", x.comes(0, 4, 0, 0), 2);
    due(20, "faces", x.comes(0, 4, 0, 1), 3);
    due(20, "fell", x.comes(0, 4, 0, 2), NONE);
    row(x, 1, "oloorr");
    x.tell(0, 1);
    due(20, "he falls: cell", x.comes(1, 6, 0, 0), 13);
    due(20, "he falls: faces", x.comes(1, 6, 0, 1), 1);
    due(20, "he falls: by", x.comes(1, 6, 0, 2), 2);
    row(x, 2, "oooorwroooooo");
    due(20, "the edge", x.comes(2, 13, 0, 0), 42);
    due(20, "the edge", x.comes(2, 7, 0, 1), 2);
    due(20, "he stays", x.personOf(0, 2) * 10 + x.personOf(0, 3), 220);
    due(20, "what", x.comes(0, 4, 0, 3), BAD);
    due(20, "what", x.comes(0, 4, 0, -1), BAD);
    due(20, "person", x.comes(0, 4, 1, 0), BAD);
    due(20, "person", x.comes(0, 4, -1, 0), BAD);
    due(20, "none isn't refused", x.status(12), 4);
    x.row(3, 4, 2);
    x.set(3, 0, 9);
    due(20, "booleans are ons and lefts", x.comes(3, 2, 0, 0) * 10 + x.comes(3, 2, 0, 1), 231);
    x.row(4, 3, 1);
    x.set(4, 0, 1L << 32);
    due(20, "a long that only looks like on", x.comes(4, 1, 0, 0), STUCK);

    // each kind: LEFT 1, OLD 0, for 0, 22 facing up, a pond at 23
    String signs = "lwlorrlr";
    x = on("left 1;pond 23;person 0 0 21 0;person 1 0 21 0;person 2 0 21 0;person 3 0 21 0;person 4 0 21 0;person 5 0 21 0");
    row(x, 0, signs);
    int[][] faces = {
        {1, 1, 2, 2, 1, 0, 1, 0}, {3, 3, 2, 2, 3, 0, 3, 0}, {1, 1, 0, 0, 3, 0, 1, 2},
        {3, 3, 2, 2, 3, 0, 3, 0}, {1, 1, 2, 2, 1, 0, 1, 0}, {1, 1, 0, 0, 1, 0, 1, 0},
    };
    for (int person = 0; person < 6; person++) {
      for (int n = 1; n <= 8; n++) {
        due(20, "kind " + person + " behind " + n, x.comes(0, n, person, 1), faces[person][n - 1]);
      }
    }
    row(x, 1, "lorll");
    x.put(4, 21, 0);
    // forder: right 22 beside the pond: a right by 0 is as a clock's hand: down; lefts by 0: right, up
    due(20, "forder", x.comes(1, 2, 4, 0), 22);
    due(20, "forder", x.comes(1, 3, 4, 1), 2);
    due(20, "forder", x.comes(1, 4, 4, 1), 1);
    due(20, "forder", x.comes(1, 5, 4, 1), 0);
  }

  private static void p21to23() {
    sharedRefusals(21, "fell", (x, s, n) -> x.fell(s, n));
    LeftIsAgreedOn x = on("pond 12;pond 2;person 0 1 22 0;person 0 2 42 0;person 1 1 11 1;person 3 1 0 0");
    row(x, 0, "ooo");
    due(21, "fell(0, 0)", x.fell(0, 0), 0);
    due(21, "fell(0, 1)", x.fell(0, 1), 2);
    due(21, "fell(0, 3)", x.fell(0, 3), 3);

    sharedRefusals(22, "ponds", (y, s, n) -> y.ponds(s, n, 0));
    due(22, "one on", x.ponds(0, 1, 0), 1);
    due(22, "three ons", x.ponds(0, 3, 0), 3);
    due(22, "facing right", x.ponds(0, 3, 2), 4);
    due(22, "none", x.ponds(0, 0, 0), 0);
    due(22, "person", x.ponds(0, 0, 4), BAD);
    due(22, "person", x.ponds(0, 0, -1), BAD);

    x = on("person 0 1 22 0;person 1 1 22 0;pond 21;person 2 1 22 1");
    due(23, "there", x.safe(0, 22, 0, NONE), 0);
    due(23, "there", x.safe(0, 22, 0, 0), STUCK);
    due(23, "up", x.safe(0, 2, 0, NONE), 2);
    due(23, "up", x.safe(0, 2, 0, 1), 0);
    due(23, "up", x.safe(0, 2, 0, 2), STUCK);
    // down, whatever is agreed: turn about
    due(23, "down", x.safe(0, 42, 0, NONE), 4);
    due(23, "down", x.safe(0, 42, 0, 0) * 1000 + x.safe(0, 42, 0, 1) * 100 + x.safe(0, 42, 0, 2) * 10
        + x.safe(0, 42, 0, 3), 1100);
    due(23, "to the right it can't be agreed", x.safe(0, 23, 0, NONE), NONE);
    due(23, "to the right it can't be agreed", x.safe(0, 23, 0, 0), STUCK);
    due(23, "short: right by 0 is as a clock's hand", x.safe(0, 23, 1, NONE), 2);
    due(23, "short", x.safe(0, 23, 1, 0) * 10 + x.safe(0, 23, 1, 1), 20);
    x.tell(0, 1);
    due(23, "to the right still it can't be agreed", x.safe(0, 23, 0, NONE), NONE);
    due(23, "short by the other left", x.safe(0, 23, 1, 0) * 10 + x.safe(0, 23, 1, 1), 10);
    x.tell(0, 0);
    due(23, "a pond", x.safe(0, 21, 0, NONE), NONE);
    due(23, "a pond", x.safe(0, 21, 1, NONE), NONE);
    due(23, "olden knows his left", x.safe(1, 23, 0, NONE), 2);
    due(23, "olden knows his left", x.safe(1, 23, 0, 0), 2);
    due(23, "past the pond", x.safe(1, 11, 0, NONE), 3);
    due(23, "past the pond", x.safe(1, 11, 0, 0) * 100 + x.safe(1, 11, 0, 1) * 10 + x.safe(1, 11, 0, 2), 10);
    due(23, "doubter: left and left are nothing", x.safe(2, 24, 0, NONE), 2);
    // doubter turns about only by left and right
    due(23, "doubter turns about", x.safe(2, 33, 0, NONE), NONE);
    for (int what = 0; what < 2; what++) {
      due(23, "person", x.safe(3, 22, what, NONE), BAD);
      due(23, "person", x.safe(-1, 22, what, NONE), BAD);
      due(23, "cell", x.safe(0, 25, what, NONE), BAD);
      due(23, "cell", x.safe(0, -1, what, NONE), BAD);
      due(23, "i", x.safe(0, 22, what, -2), BAD);
      due(23, "i", x.safe(0, 22, what, MIN), BAD);
      due(23, "i", x.safe(0, 22, what, MAX), STUCK);
    }
    due(23, "what", x.safe(0, 22, 2, NONE), BAD);
    due(23, "what", x.safe(0, 22, -1, NONE), BAD);
    x = on("pond 12;person 2 1 22 0;person 5 1 22 0;person 0 1 22 0;person 3 1 22 0;is 3 1");
    int[] about = {1010, 1010, 1020};
    for (int person = 0; person < 3; person++) {
      int told = 0;
      for (int i = 0; i < 4; i++) told = 10 * told + x.safe(person, 11, 1, i);
      due(23, "short about the pond", told, about[person]);
    }
    due(23, "safe about the pond", x.safe(3, 11, 0, NONE), 4);
    due(23, "safe about the pond", x.safe(3, 11, 0, 0) * 10 + x.safe(3, 11, 0, 2), 21);
    x = on("person 5 1 22 0;pond 12;pond 21");
    // left or right of him there's but one lane, and he can turn by the same sign to but two sides
    due(23, "dancer", x.safe(0, 13, 1, NONE), 4);
    due(23, "dancer", x.safe(0, 13, 1, 0) * 1000 + x.safe(0, 13, 1, 1) * 100 + x.safe(0, 13, 1, 2) * 10 + x.safe(0, 13, 1, 3), 2010);
    x = on("side 7;person 0 1 66 0");
    due(23, "six signs at most", x.safe(0, 6, 0, NONE), 6);
    x = on("side 7;person 0 1 66 3;is 0 0");
    due(23, "a seventh isn't told", x.safe(0, 6, 0, NONE), NONE);
    due(23, "six", x.safe(0, 60, 0, NONE), 6);
  }

  private static void p24to27() {
    sharedRefusals(24, "kinds", (x, s, n) -> x.kinds(s, n, 0, 22, 0));
    LeftIsAgreedOn x = on("left 1;person 0 1 22 0;is 0 0;pond 44");
    row(x, 0, "lo");
    row(x, 1, "llo");
    // by 1: to 23 - voter, doubter, forder, dancer; by 0: to 21 - olden, stubborn
    due(24, "kinds to 23", x.kinds(0, 2, 0, 23, 0), 1 + 4 + 16 + 32);
    due(24, "kinds to 21", x.kinds(0, 2, 0, 21, 0), 2 + 8);
    due(24, "kinds to 22", x.kinds(0, 2, 0, 22, 0), 0);
    due(24, "kinds to 22 by none", x.kinds(0, 0, 0, 22, 0), 63);
    due(24, "kinds to 32", x.kinds(1, 3, 0, 32, 0), 1 + 2 + 8 + 16);
    due(24, "kinds to 12", x.kinds(1, 3, 0, 12, 0), 4 + 32);
    due(24, "lefts to 23", x.kinds(0, 2, 0, 23, 1), 2);
    due(24, "lefts to 21", x.kinds(0, 2, 0, 21, 1), 1);
    due(24, "lefts to 32", x.kinds(1, 3, 0, 32, 1), 3);
    due(24, "lefts to 33", x.kinds(1, 3, 0, 33, 1), 0);
    x.pond(23, true);
    due(24, "fallen in or not; forder is beside it", x.kinds(0, 2, 0, 23, 0), 1 + 4 + 32);
    due(24, "fallen in or not", x.kinds(0, 2, 0, 23, 1), 2);
    due(24, "person", x.kinds(0, 2, 1, 23, 0), BAD);
    due(24, "cell", x.kinds(0, 2, 0, 25, 0), BAD);
    due(24, "what", x.kinds(0, 2, 0, 23, 2), BAD);
    due(24, "what", x.kinds(0, 2, 0, 23, -1), BAD);

    sharedRefusals(25, "who", (y, s, n) -> y.who(s, n, 22));
    x = on("pond 12;person 0 1 22 0;person 0 1 32 0;person 0 1 11 1;person 0 1 0 0;person 0 1 1 0");
    row(x, 0, "oo");
    due(25, "who(0, 1, 12)", x.who(0, 1, 12), 1 + 4);
    due(25, "who(0, 2, 12)", x.who(0, 2, 12), 1 + 2 + 4);
    due(25, "who(0, 2, 44)", x.who(0, 2, 44), 0);
    due(25, "cell", x.who(0, 2, 45), BAD);
    due(25, "cell", x.who(0, 2, -1), BAD);

    sharedRefusals(26, "crowd", (y, s, n) -> y.crowd(s, n, 0));
    due(26, "crowd(0, 2, 0)", x.crowd(0, 2, 0), 12);
    due(26, "crowd(0, 2, 1)", x.crowd(0, 2, 1), 3);
    due(26, "all apart: the first cell", x.crowd(0, 0, 0), 0);
    due(26, "all apart", x.crowd(0, 0, 1), 1);
    x.put(4, 22, 0);
    x.put(1, 0, 0);
    due(26, "two and two: the first cell", x.crowd(0, 0, 0), 0);
    due(26, "two and two", x.crowd(0, 0, 1), 2);
    due(26, "what", x.crowd(0, 0, 2), BAD);
    due(26, "what", x.crowd(0, 0, -1), BAD);
    x = new LeftIsAgreedOn();
    row(x, 0, "?");
    due(26, "nobody", x.crowd(0, 0, 0), STUCK);
    due(26, "nobody", x.crowd(0, 0, 1), STUCK);
    due(26, "nobody, fewer elements", x.crowd(0, 2, 1), BAD);

    sharedRefusals(27, "firstFall", (y, s, n) -> y.firstFall(s, n));
    x = on("pond 12;person 0 1 42 0;person 0 1 32 0;person 0 1 0 0");
    row(x, 0, "wooo");
    due(27, "firstFall(0, 4)", x.firstFall(0, 4), 2);
    due(27, "firstFall(0, 2)", x.firstFall(0, 2), NONE);
    due(27, "none isn't refused", x.status(12), 0);
    x.put(0, 22, 0);
    due(27, "the first one is first", x.firstFall(0, 4), 1);
  }

  private static void p28to31() {
    sharedRefusals(28, "alike", (x, s, n) -> x.alike(s, n, 0));
    LeftIsAgreedOn x = on("person 0 1 22 0;person 1 1 22 0;person 4 1 22 0");
    row(x, 0, "llol");
    due(28, "alike(0, 3, 0)", x.alike(0, 3, 0), 1);
    due(28, "faces are not", x.alike(0, 4, 0), 0);
    due(28, "olden", x.alike(0, 4, 1), 1);
    x.tell(0, 1);
    due(28, "by the other left, too", x.alike(0, 4, 0), 0);
    due(28, "by the other left, too", x.alike(0, 3, 0), 1);
    due(28, "none", x.alike(0, 0, 0), 1);
    row(x, 1, "lolooll");
    due(28, "cells are not", x.alike(1, 6, 0), 0);
    due(28, "person", x.alike(0, 0, 3), BAD);
    due(28, "person", x.alike(0, 0, -1), BAD);

    sharedRefusals(29, "differ", (y, s, n) -> y.differ(s, n, 0, 1));
    x = on("left 1;person 0 1 22 0;person 2 1 44 3;person 4 1 0 0;pond 12;is 1 1");
    row(x, 0, "wlwlo");
    due(29, "voter, doubter", x.differ(0, 5, 0, 1), 4);
    due(29, "voter, doubter", x.differ(0, 3, 0, 1), NONE);
    due(29, "voter, forder beside a pond", x.differ(0, 5, 0, 2), 2);
    due(29, "forder where he is", x.differ(0, 5, 2, 0), NONE);
    due(29, "the same one", x.differ(0, 5, 0, 0), BAD);
    due(29, "person", x.differ(0, 5, 3, 0), BAD);
    due(29, "other", x.differ(0, 5, 0, 3), BAD);
    due(29, "other", x.differ(0, 5, 0, -1), BAD);
    row(x, 1, "oll");
    due(29, "both fallen", x.differ(1, 3, 0, 1), NONE);

    sharedRefusals(30, "again", (y, s, n) -> y.again(s, n, 0, 3));
    x = on("side 7;person 2 1 33 0;person 0 1 63 0;pond 3");
    row(x, 0, "lo");
    // doubter, LEFT 0: against the clock, then by it: 33 left 32 up 22 left 21 up 11
    int[] at = {33, 32, 22, 21, 11, 10, 0, 0};
    for (int times = 0; times < at.length; times++) due(30, "again " + times, x.again(0, 2, 0, times), at[times]);
    row(x, 1, "o");
    due(30, "into the pond", x.again(1, 1, 1, 6), 3);
    due(30, "into the pond", x.again(1, 1, 1, 20), 3);
    due(30, "times", x.again(1, 1, 1, 21), BAD);
    due(30, "times", x.again(1, 1, 1, -1), BAD);
    due(30, "person", x.again(1, 1, 2, 1), BAD);

    sharedRefusals(31, "ring", (y, s, n) -> y.ring(s, n, 0));
    x = on("person 0 1 22 0;person 2 1 22 0;person 5 1 22 0;pond 44");
    row(x, 0, "lo");
    due(31, "voter", x.ring(0, 2, 0), 4);
    due(31, "doubter", x.ring(0, 2, 1), NONE);
    row(x, 1, "l");
    due(31, "voter turns", x.ring(1, 1, 0), 4);
    due(31, "doubter turns", x.ring(1, 1, 1), 2);
    due(31, "dancer turns", x.ring(1, 1, 2), 2);
    due(31, "person", x.ring(1, 1, 3), BAD);
    due(31, "none", x.ring(1, 0, 0), 1);
    x.pond(12, true);
    row(x, 2, "o");
    due(31, "fallen", x.ring(2, 1, 0), NONE);
    x = on("pond 14;pond 40;pond 20;pond 3;person 4 0 21 0");
    row(x, 0, "orollr");
    due(31, "twenty times", x.ring(0, 6, 0), 20);
    x = on("pond 0;pond 34;pond 43;left 1;person 4 0 33 0");
    row(x, 0, "orol");
    row(x, 1, "orolorolorol");
    due(31, "three times seven times", x.ring(1, 12, 0), 7);
    due(31, "twenty-one are too many", x.ring(0, 4, 0), NONE);
  }

  private static void p32to37() {
    sharedRefusals(32, "lonely", (x, s, n) -> x.lonely(s, n));
    LeftIsAgreedOn x = on("pond 12;person 0 1 22 0;person 0 1 32 0;person 0 1 11 1;person 0 1 0 0");
    row(x, 0, "oo");
    due(32, "lonely(0, 0)", x.lonely(0, 0), 15);
    due(32, "lonely(0, 1)", x.lonely(0, 1), 2 + 8);
    due(32, "lonely(0, 2)", x.lonely(0, 2), 8);

    sharedRefusals(33, "idle", (y, s, n) -> y.idle(s, n, 0));
    row(x, 1, "woolo");
    due(33, "the wait and all behind the fall", x.idle(1, 5, 1), 3);
    due(33, "the edge", x.idle(1, 5, 3), 5);
    due(33, "none", x.idle(1, 0, 3), 0);
    due(33, "person", x.idle(1, 0, 4), BAD);

    x = on("left 1;person 0 1 22 0;person 1 1 22 0;person 2 1 22 0;person 5 1 22 2;person 4 1 22 0;pond 21");
    int[][] lefts = {{0, 1, 2, 3}, {0, 3, 2, 1}, {0, 1, -1, -1}, {-1, -1, 0, 1}, {0, 3, 2, 1}};
    for (int person = 0; person < 5; person++) {
      for (int faces = 0; faces < 4; faces++) {
        due(34, "lefts(" + person + ", " + faces + ")", x.lefts(person, faces), lefts[person][faces]);
      }
    }
    due(34, "faces", x.lefts(0, 4), BAD);
    due(34, "faces", x.lefts(0, -1), BAD);
    due(34, "person", x.lefts(5, 0), BAD);
    due(34, "none isn't refused", x.status(12), 3);

    x = on("person 0 1 22 0;person 2 1 22 0");
    // up 1; then left or right and on; then turning about
    int[] reach = {1, 2, 5, 10, 17, 23, 25};
    for (int n = 0; n < 7; n++) due(35, "reach(0, " + n + ")", x.reach(0, n), reach[n]);
    x.pond(12, true);
    due(35, "a pond", x.reach(0, 1), 1);
    due(35, "a pond", x.reach(0, 2), 3);
    due(35, "n", x.reach(0, 7), BAD);
    due(35, "n", x.reach(0, -1), BAD);
    due(35, "person", x.reach(2, 0), BAD);
    x.put(0, 0, 0);
    due(35, "the first cell", x.reach(0, 0), 1);
    x = on("side 7;left 1;person 0 1 66 0");
    due(35, "the last cell", x.reach(0, 0), 1);
    due(35, "the last cell", x.reach(0, 3), 7);

    x = on("side 7;pond 36");
    due(36, "right", x.open(33, 1), 2);
    due(36, "up", x.open(33, 0), 3);
    due(36, "left", x.open(33, 3), 3);
    due(36, "down", x.open(23, 2), 4);
    due(36, "the edge", x.open(66, 2), 0);
    due(36, "a pond ahead", x.open(35, 1), 0);
    due(36, "from a pond", x.open(36, 3), 6);
    due(36, "cell", x.open(7, 0), BAD);
    due(36, "cell", x.open(-1, 0), BAD);
    due(36, "faces", x.open(0, 4), BAD);
    due(36, "faces", x.open(0, -1), BAD);

    due(37, "shore()", x.shore(), 3);
    x.pond(1, true);
    due(37, "shore()", x.shore(), 6);
    due(52, "ponds", x.status(5), 2);
    x.pond(1, false);
    x.pond(0, true);
    due(52, "ponds", x.status(5), 2);
    due(37, "shore()", x.shore(), 5);
    x.pond(0, false);
    x.pond(35, true);
    due(37, "shore()", x.shore(), 5);
    x.pond(0, true);
    due(37, "shore()", x.shore(), 7);
    x.pond(11, true);
    due(37, "shore()", x.shore(), 9);
  }

  private static void p38to43() {
    LeftIsAgreedOn x = on("person 0 3 0 0;person 1 2 0 0;person 2 1 0 0;person 3 0 0 0;is 0 1");
    due(38, "bloc(0)", x.bloc(0), 3);
    due(38, "bloc(1)", x.bloc(1), 3);
    x.isFor(3, 1);
    x.isFor(2, 1);
    due(38, "bloc(0)", x.bloc(0), 2);
    due(38, "bloc(1)", x.bloc(1), 4);
    x.isFor(2, 0);
    x.isFor(3, 0);
    due(38, "bloc(2)", x.bloc(2), BAD);
    due(38, "bloc(-1)", x.bloc(-1), BAD);
    due(42, "neither: LEFT", x.carries(), 0);
    x.tell(0, 1);
    due(42, "neither: LEFT", x.carries(), 1);
    due(39, "swing(0)", x.swing(0), 1);
    due(39, "swing(1)", x.swing(1), 0);
    due(39, "swing(3)", x.swing(3), 0);
    due(39, "swing(4)", x.swing(4), BAD);
    due(39, "swing(-1)", x.swing(-1), BAD);
    due(43, "how many", x.turn(0), 1);
    due(43, "the set", x.turn(1), 1);
    x.tell(0, 0);
    due(39, "swing(1)", x.swing(1), 1);
    due(43, "the set", x.turn(1), 2);
    x.isFor(0, 0);
    due(42, "carries()", x.carries(), 0);
    // 3 alone is a draw of 3 and 3, and left stays: two are needed
    due(43, "how many", x.turn(0), 2);
    due(43, "the set", x.turn(1), 3);
    due(43, "what", x.turn(2), BAD);
    due(43, "what", x.turn(-1), BAD);
    due(40, "mightiest()", x.mightiest(), 0);
    x = on("person 0 0 0 0;person 0 2 0 0;person 0 2 0 0;person 0 2 0 0");
    due(40, "the first of several", x.mightiest(), 1);
    due(43, "of several the first", x.turn(1), 2 + 4);
    x.isFor(1, 1);
    x.isFor(2, 1);
    due(42, "carries()", x.carries(), 1);
    due(43, "of several the first", x.turn(1), 2);
    x = on("person 0 3 0 0;person 0 2 0 0;is 0 1");
    due(42, "by one", x.carries(), 1);
    x.isFor(1, 1);
    x.isFor(0, 0);
    x.tell(0, 1);
    due(42, "by one", x.carries(), 0);
    x = new LeftIsAgreedOn();
    due(40, "nobody", x.mightiest(), STUCK);
    x.person(0, 0, 0, 0);
    due(40, "no power", x.mightiest(), 0);
    due(43, "it can't be", x.turn(0), NONE);
    due(43, "it can't be", x.turn(1), NONE);
    due(43, "none isn't refused", x.status(12) + x.status(15), 1);

    x = on("left 1;person 0 1 22 0;person 1 1 22 0;person 2 1 22 0;person 3 1 22 0;person 4 1 22 0;"
        + "person 5 1 22 0;person 3 1 22 0;person 4 1 23 0;is 6 1;pond 24");
    due(41, "agreed()", x.agreed(), 1 + 4 + 16 + 32 + 64);
    x.tell(0, 0);
    due(41, "agreed()", x.agreed(), 1 + 2 + 4 + 8 + 16 + 32);
    x = on("person 3 1 22 0;person 3 1 22 0;is 0 1");
    due(41, "agreed()", x.agreed(), 2);
  }

  private static void p44to46() {
    sharedRefusals(44, "meet", (x, s, n) -> x.meet(s, n, 0, 3, 0, 1));
    sharedRefusals(44, "meet", (x, s, n) -> x.meet(3, 0, 0, s, n, 1));
    sharedRefusals(45, "waits", (x, s, n) -> x.waits(s, n, 0, 3, 0, 1));
    sharedRefusals(45, "waits", (x, s, n) -> x.waits(3, 0, 0, s, n, 1));
    LeftIsAgreedOn x = on("person 0 1 20 1;person 0 1 24 3;person 0 1 2 2;pond 40");
    row(x, 0, "oooo");
    row(x, 1, "oow");
    row(x, 2, "wooo");
    due(44, "in the middle", x.meet(0, 4, 0, 0, 4, 1), 2);
    due(44, "swapped", x.meet(0, 4, 0, 2, 4, 1), 3);
    due(44, "not so long", x.meet(0, 1, 0, 0, 1, 1), NONE);
    due(44, "the other one is done", x.meet(0, 4, 0, 0, 0, 1), 4);
    due(44, "the first one is done", x.meet(0, 0, 0, 0, 4, 1), 4);
    due(44, "no signs", x.meet(0, 0, 0, 0, 0, 1), NONE);
    due(44, "across", x.meet(0, 4, 0, 0, 4, 2), 2);
    due(44, "across", x.meet(0, 4, 0, 1, 3, 2), 2);
    due(44, "past one another", x.meet(0, 4, 0, 2, 4, 2), NONE);
    due(44, "the same one", x.meet(0, 4, 0, 0, 4, 0), BAD);
    due(44, "person", x.meet(0, 4, 3, 0, 4, 0), BAD);
    due(44, "other", x.meet(0, 4, 0, 0, 4, -1), BAD);
    x.show(6, 0);
    due(44, "other ahead of nothing", x.meet(7, 0, 0, 6, 0, 1), OTHER);
    due(44, "other ahead of nothing", x.meet(6, 0, 0, 7, 0, 1), OTHER);
    due(44, "nothing ahead of bad", x.meet(0, 40, 0, 7, 0, 1), NOTHING);
    row(x, 5, "?");
    due(44, "bad ahead of stuck", x.meet(5, 1, 0, 0, 40, 1), BAD);
    due(44, "stuck", x.meet(0, 4, 0, 5, 1, 1), STUCK);

    due(45, "swapping, too, is a meeting", x.waits(0, 4, 0, 0, 4, 1), NONE);
    due(45, "across: one wait", x.waits(0, 4, 0, 0, 4, 2), 1);
    due(45, "none", x.waits(0, 4, 0, 2, 4, 2), 0);
    x.put(1, 20, 0);
    due(44, "ahead of all", x.meet(0, 4, 0, 0, 4, 1), 0);
    due(45, "ahead of all", x.waits(0, 4, 0, 0, 4, 1), NONE);
    x.put(0, 20, 2);
    x.put(1, 41, 3);
    due(44, "in one pond", x.meet(0, 4, 0, 2, 4, 1), 2);
    due(44, "one pulled down by the other's end", x.meet(0, 4, 0, 0, 0, 1), NONE);

    x = on("side 7;person 0 1 63 0;person 0 1 0 1");
    row(x, 0, "oooooowwwlo");
    row(x, 1, "oooooo");
    // the first one comes to 3 with its 6th sign and stands there for five: the second one must
    // pass 3 ahead of that (its third sign): no wait
    due(44, "passes", x.meet(0, 9, 0, 1, 6, 1), NONE);
    due(45, "no wait", x.waits(0, 9, 0, 1, 6, 1), 0);
    row(x, 2, "wwwoooooo");
    due(45, "he comes and stays", x.waits(0, 9, 0, 2, 9, 1), NONE);
    row(x, 3, "oooooowwlow");
    // away to 2 with its 10th sign, against the second one who comes along the row from 0
    due(45, "he comes against him", x.waits(3, 11, 0, 2, 9, 1), NONE);
    x.tell(0, 1);
    // away to 4 instead: the second one comes to 4 behind his 7th sign and on; he is met there
    due(45, "he stands in the lane", x.waits(3, 11, 0, 2, 9, 1), NONE);
    row(x, 4, "oooooolor");
    due(45, "he is in the lane's second half", x.waits(4, 8, 0, 1, 3, 1), 5);
    LeftIsAgreedOn y = on("side 7;person 0 1 63 0;person 0 1 20 1");
    row(y, 1, "ooo");
    // the first one stands in 23 behind his 4th on alone: the second one must come there behind that
    row(y, 0, "wwwwwwwooooo");
    due(45, "nine waits", y.waits(0, 12, 0, 1, 3, 1), 9);
    due(45, "no meeting, if he is done too early", y.waits(0, 10, 0, 1, 3, 1), 0);
    row(y, 0, "wwwwwwwwooooo");
    due(45, "ten are too many", y.waits(0, 13, 0, 1, 3, 1), NONE);

    sharedRefusals(46, "judge", (z, s, n) -> z.judge(s, n));
    x.row(0, 3, 40);
    due(46, "all are signs", x.judge(0, 40), NONE);
    x.set(0, 39, 4);
    due(46, "the last", x.judge(0, 40), 39);
    due(46, "not as far", x.judge(0, 39), NONE);
    x.set(0, 3, -1);
    due(46, "the first of them", x.judge(0, 40), 3);
    x.set(0, 1, 3);
    x.set(0, 2, 1L << 40);
    due(46, "a long", x.judge(0, 40), 2);
    due(46, "nothing is wrong by it", x.status(15), 0);
  }

  private static void p47to49() {
    sharedRefusals(47, "walk", (x, s, n) -> x.walk(s, n, 0));
    LeftIsAgreedOn x = on("pond 12;person 0 1 42 0;person 5 1 0 1");
    row(x, 0, "oooll");
    due(47, "pulled out", x.walk(0, 5, 0), 22);
    due(47, "faces as then", x.personOf(0, 2) * 10 + x.personOf(0, 3), 220);
    due(47, "fallen", x.status(7), 1);
    due(47, "once more", x.walk(0, 1, 0), 22);
    due(47, "fallen", x.status(7), 2);
    row(x, 1, "olo");
    due(47, "a walk", x.walk(1, 3, 1), 1);
    due(47, "faces", x.personOf(1, 3), 0);
    due(47, "not fallen", x.status(7), 2);
    due(47, "person", x.walk(1, 3, 2), BAD);
    due(47, "the other one stays", x.personOf(0, 2), 22);

    x = new LeftIsAgreedOn();
    due(48, "years(0)", x.years(0), BAD);
    due(48, "years(61)", x.years(61), BAD);
    due(48, "years(-1)", x.years(-1), BAD);
    due(48, "nobody", x.years(60), 0);
    due(48, "no draws", x.status(9), 1);
    due(48, "years", x.status(6), 60);
    x = on("left 1;person 0 5 0 0;person 0 2 0 0;doubt 0");
    due(48, "a year", x.years(1), 0);
    due(48, "old", x.status(3), 1);
    int seed = 1;
    for (int draw = 0; draw < 2; draw++) seed = seed * 1103515245 + 12345;
    due(48, "two draws", x.status(9), seed);
    due(48, "for", x.personOf(0, 4) + x.personOf(1, 4), 0);
    x.tell(2, 12);
    due(48, "all doubt, but behind the count", x.years(1), 0);
    due(48, "for", x.personOf(0, 4) + x.personOf(1, 4), 2);
    due(48, "old", x.status(3), 0);
    due(48, "the next", x.years(1), 1);
    due(48, "years", x.status(6), 3);
    x = on("person 0 5 0 0;person 0 2 0 0;person 0 2 0 0;doubt 6");
    int[] pledges = new int[3];
    seed = -77;
    due(49, "seed(-77)", x.seed(-77), 1);
    for (int year = 0; year < 30; year++) {
      x.years(1);
      for (int person = 0; person < 3; person++) {
        seed = seed * 1103515245 + 12345;
        if ((seed >>> 16) % 12 < 6) pledges[person] ^= 1;
        due(48, "year " + year + " person " + person, x.personOf(person, 4), pledges[person]);
      }
    }
    due(49, "seed(MAX)", x.seed(MAX), seed);
    due(49, "seed(0)", x.seed(0), MAX);
    due(49, "status(9)", x.status(9), 0);
  }

  private static void p50to52() {
    LeftIsAgreedOn x = new LeftIsAgreedOn();
    due(51, "nothing was", x.back(), STUCK);
    read(x, "side 6;pond 12;left 1;old 1;doubt 7;person 0 5 22 0;person 3 2 33 1;is 1 1");
    row(x, 0, "o");
    x.walk(0, 1, 0);
    x.years(2);
    x.seed(99);
    int left = x.status(2), old = x.status(3), for0 = x.personOf(0, 4), for1 = x.personOf(1, 4);
    due(50, "image()", x.image(), 1);
    x.show(1, 1);
    x.feed('a');
    read(x, "a");
    for (int time = 0; time < 2; time++) {
      x.wipe();
      x.side(7);
      x.pond(12, false);
      x.pond(13, true);
      x.tell(0, 1 - x.status(2));
      x.tell(1, 1 - x.status(3));
      x.tell(2, 12);
      x.put(0, 0, 3);
      x.isFor(1, 1 - for1);
      x.person(1, 1, 44, 2);
      x.show(2, 2);
      x.show(3, 0);
      x.row(4, 2, 3);
      x.walk(0, 1, 1);
      x.put(1, 14, 3);
      x.walk(0, 1, 1);
      x.show(0, 2);
      x.years(5);
      x.feed('b');
      due(51, "fallen ahead of it", x.status(7), 2);
      due(51, "status(10)", x.status(10), 5);
      due(51, "back()", x.back(), 1);
      int[] then = {2, 6, left, old, 7, 1, 2, 1, 1, 99, 3};
      for (int what = 0; what < then.length; what++) due(51, "status(" + what + ")", x.status(what), then[what]);
      due(51, "pond", x.isPond(12) * 10 + x.isPond(13), 10);
      due(51, "the first one", x.personOf(0, 2) * 10 + x.personOf(0, 3), 220);
      due(51, "for", x.personOf(0, 4) * 10 + x.personOf(1, 4), for0 * 10 + for1);
      due(51, "the same numbers", x.holds(1) * 100 + x.holds(3), 1110);
      due(51, "or nothing", x.holds(2), NONE);
      due(51, "or nothing", x.holds(0), NONE);
      x.row(0, 0, 1);
      due(51, "rows stay", x.holds(4), 2);
    }
    x.person(1, 1, 44, 2);
    due(51, "nothing though he comes again", x.holds(2), NONE);
    due(51, "refusals stay", x.status(12) * 10 + x.status(15), 11);

    for (int what : new int[] {-1, 11, 17, 100, MIN, MAX}) due(52, "status(" + what + ")", x.status(what), NONE);
    x = on("person 0 5 22 0;pond 44;pond 43;pond 44;dry 43");
    due(52, "ponds", x.status(5), 1);
    x.show(0, 0);
    x.row(7, 0, 0);
    due(52, "shelves", x.status(10), 2);
    x.side(0);
    x.set(0, 0, 0);
    x.set(1, 0, 0);
    x.set(1, 0, 0);
    x.put(0, 44, 0);
    x.put(0, 44, 0);
    x.put(0, 44, 0);
    for (int i = 0; i < 254; i++) x.feed(7);
    due(52, "BAD", x.status(12), 1);
    due(52, "OTHER", x.status(13), 1);
    due(52, "NOTHING", x.status(14), 2);
    due(52, "STUCK", x.status(15), 3);
    due(52, "FULL", x.status(16), 4);
    due(52, "island() counts as BAD", x.island() * 10 + x.status(12), -198);
  }

  // 8 people: all rows of the people are full
  private static void fullHouse() {
    LeftIsAgreedOn x = on("pond 12;pond 30");
    for (int person = 0; person < 8; person++) x.person(person % 6, 1 + person % 2, person < 4 ? 22 : 48 - person, person % 4);
    row(x, 0, "olo");
    row(x, 1, "ro");
    due(21, "a full house", x.fell(0, 3), 1);
    due(25, "a full house", x.who(0, 3, 12), 1);
    due(25, "a full house, nothing told", x.who(0, 0, 22), 15);
    due(26, "a full house", x.crowd(0, 0, 0) * 10 + x.crowd(0, 0, 1), 224);
    due(27, "a full house", x.firstFall(0, 3), 0);
    due(32, "a full house", x.lonely(0, 0), 240);
    due(38, "a full house", x.bloc(0), 12);
    due(40, "a full house", x.mightiest(), 1);
    due(41, "a full house", x.agreed(), 255);
    due(42, "a full house", x.carries(), 0);
    due(43, "a full house", x.turn(0), 4);
    due(43, "a full house", x.turn(1), 2 + 8 + 32 + 1);
    due(18, "a full house", x.personOf(7, 1), 2);
    due(44, "a full house", x.meet(0, 3, 7, 1, 2, 6), NONE);
    due(48, "a full house", x.years(60), x.status(2));
    due(50, "a full house", x.image() + x.back(), 2);
    due(52, "a full house", x.status(0), 8);
  }

  public static void main(String[] args) {
    fullHouse();
    p1to8();
    p9to14();
    p15to17();
    p18();
    p20();
    p21to23();
    p24to27();
    p28to31();
    p32to37();
    p38to43();
    p44to46();
    p47to49();
    p50to52();
    System.out.println(wrong == 0 ? "all " + asked + " answers are as due" : wrong + " answers are not as due");
    if (wrong != 0) System.exit(1);
  }
}
