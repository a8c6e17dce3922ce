// The boundary cases of promises 20 to 35: what a TELLING brings.
final class AskBoundaries extends Boundary {
  private static final int[] NO_SHELVES = {MIN, -1, 8, 9, MAX};
  private static final int[] NO_LENGTHS = {MIN, -1, 41, 42, MAX};
  private static final int[] NO_PEOPLE = {MIN, -2, -1, 3, 8, MAX};
  private static final int[] NO_CELLS = {MIN, -1, 5, 45, 50, 55, 100, MAX};

  static void run() {
    comes();
    fell();
    ponds();
    safe();
    kinds();
    who();
    crowd();
    firstFall();
    alike();
    differ();
    again();
    ring();
    lonely();
    idle();
    lefts();
    reach();
  }

  interface Telling { long by(LeftIsAgreedOn x, int s, int n); }

  private static LeftIsAgreedOn strange() {
    LeftIsAgreedOn x = some();
    x.row(0, 3, 6);
    long[] no = {1L << 32, Long.MIN_VALUE, Long.MAX_VALUE, -1, 4, 0};
    for (int i = 0; i < no.length; i++) x.set(0, i, no[i]);
    return x;
  }

  // the refusals of a call by the first n elements of the ROW in SHELF s, and what is just taken
  static void refusals(Telling call, boolean areSignsAsked) {
    for (int s : NO_SHELVES) for (int n : new int[] {0, 40}) refused(Boundary::some, x -> call.by(x, s, n), BAD);
    // 1 one of the people, 0 nothing, 2 a row with an end that is no SIGN, 3 a row of none, 7 one of forty
    for (int n : NO_LENGTHS) for (int s : new int[] {0, 1, 2, 3, 7}) refused(Boundary::some, x -> call.by(x, s, n), BAD);
    for (int n : new int[] {0, 1, 40}) {
      for (int s : new int[] {1, 6}) refused(Boundary::some, x -> call.by(x, s, n), OTHER);
      for (int s : new int[] {0, 5}) refused(Boundary::some, x -> call.by(x, s, n), NOTHING);
    }
    for (int n : new int[] {4, 5, 40}) refused(Boundary::some, x -> call.by(x, 2, n), BAD);
    for (int n : new int[] {1, 2, 40}) refused(Boundary::some, x -> call.by(x, 3, n), BAD);
    if (areSignsAsked) {
      refused(Boundary::some, x -> call.by(x, 2, 3), STUCK);
      for (int first = 0; first < 5; first++) {
        int i = first;
        refused(AskBoundaries::strange, x -> call.by(x, 0, i + 1), STUCK);
        refused(() -> { LeftIsAgreedOn x = strange(); x.copy(0, 0, i, 0, 1); return x; }, x -> call.by(x, 0, 1), STUCK);
      }
      // the last of forty
      refused(() -> { LeftIsAgreedOn x = some(); x.set(7, 39, 4); return x; }, x -> call.by(x, 7, 40), STUCK);
    }
    due(call.by(some(), 2, 2) >= NONE ? 1 : 0, 1);
    due(call.by(some(), 2, 0) >= NONE ? 1 : 0, 1);
    due(call.by(some(), 3, 0) >= NONE ? 1 : 0, 1);
    due(call.by(some(), 7, 40) >= NONE ? 1 : 0, 1);
    // what stands behind the first n isn't looked at
    LeftIsAgreedOn x = some();
    x.set(7, 39, 4);
    due(call.by(x, 7, 39) >= NONE ? 1 : 0, 1);
  }

  interface Asked { long by(LeftIsAgreedOn x, int s, int n, int v); }

  // a number that may not be is BAD ahead of what the SHELF holds, and how much
  static void alsoBad(Asked call, int... values) {
    int[][] tellings = {{0, 0}, {1, 0}, {2, 2}, {2, 3}, {2, 4}, {3, 0}, {7, 40}, {8, 0}, {7, 41}};
    for (int v : values) for (int[] t : tellings) refused(Boundary::some, x -> call.by(x, t[0], t[1], v), BAD);
  }

  private static void comes() {
    promise(20, "COMES of one by the first n elements (0 to 40) of the ROW in SHELF s: the CELL (what 0), FACES (1), by which "
        + "SIGN he FELL (2; NONE). BAD SHELF, n, person, what; OTHER; NOTHING; BAD: fewer elements; STUCK: an element "
        + "that is no SIGN. (NONE isn't refused.)");
    refusals((x, s, n) -> x.comes(s, n, 0, 2), true);
    alsoBad((x, s, n, v) -> x.comes(s, n, v, 0), NO_PEOPLE);
    alsoBad((x, s, n, v) -> x.comes(s, n, 0, v), MIN, -1, 3, 4, MAX);
    asks(Boundary::some, x -> x.comes(7, 40, 0, 2), NONE);
    asks(Boundary::some, x -> x.comes(7, 40, 0, 0), 2);
    asks(Boundary::some, x -> x.comes(7, 40, 2, 2), 0);
    asks(Boundary::some, x -> x.comes(7, 40, 2, 0), 13);
    asks(Boundary::some, x -> x.comes(3, 0, 1, 0), 11);
    asks(Boundary::some, x -> x.comes(3, 0, 1, 1), 1);
    asks(Boundary::some, x -> x.comes(3, 0, 1, 2), NONE);
    // each SORT of ROW may tell
    for (int sort = 0; sort < 5; sort++) {
      LeftIsAgreedOn x = on("person 0 0 22 0");
      x.row(0, sort, 2);
      x.set(0, 1, 1);
      due(x.comes(0, 2, 0, 0) * 10 + x.comes(0, 2, 0, 1), 123);
    }
    // eight people, the last one too
    LeftIsAgreedOn x = full();
    row(x, 0, "o");
    due(x.comes(0, 1, 7, 0), 21);
    due(x.comes(0, 1, 8, 0), BAD);
  }

  private static void fell() {
    promise(21, "FELL of a TELLING. BAD SHELF, n; OTHER; NOTHING; BAD; STUCK likewise.");
    refusals((x, s, n) -> x.fell(s, n), true);
    asks(Boundary::some, x -> x.fell(7, 0), 0);
    // right to the pond at 13: with one on from 12, with two from 11
    asks(Boundary::some, x -> x.fell(7, 1), 1);
    asks(Boundary::some, x -> x.fell(7, 40), 2);
    asks(() -> on("pond 0", "0o"), x -> x.fell(0, 1), 0);
  }

  private static void ponds() {
    promise(22, "PONDS by one and a TELLING. BAD SHELF, n, person; OTHER; NOTHING; BAD; STUCK likewise.");
    refusals((x, s, n) -> x.ponds(s, n, 0), true);
    alsoBad((x, s, n, v) -> x.ponds(s, n, v), NO_PEOPLE);
    asks(Boundary::some, x -> x.ponds(7, 0, 0), 0);
    // up, to 13: from 23, 33, 43; up, to 44: from none
    asks(Boundary::some, x -> x.ponds(7, 1, 0), 1);
    asks(Boundary::some, x -> x.ponds(7, 39, 0), 3);
    // right: 10, 11, 12 to 13, and 40 to 43 to 44
    asks(Boundary::some, x -> x.ponds(7, 39, 1), 7);
  }

  private static void safe() {
    promise(23, "SAFE (what 0), SHORT (1) for one to a CELL: how many (i NONE; NONE), the i-th. BAD (also i below NONE); "
        + "STUCK: not so many. (NONE isn't refused.)");
    for (int person : NO_PEOPLE) for (int what = 0; what < 2; what++) {
      int w = what;
      refused(Boundary::some, x -> x.safe(person, 22, w, NONE), BAD);
    }
    for (int cell : NO_CELLS) for (int what = 0; what < 2; what++) {
      int w = what;
      refused(Boundary::some, x -> x.safe(0, cell, w, NONE), BAD);
      refused(Boundary::some, x -> x.safe(0, cell, w, 0), BAD);
    }
    for (int what : new int[] {MIN, -1, 2, 3, MAX}) refused(Boundary::some, x -> x.safe(0, 22, what, NONE), BAD);
    for (int what = 0; what < 2; what++) {
      int w = what;
      for (int i : new int[] {MIN, -3, -2}) {
        refused(Boundary::some, x -> x.safe(0, 12, w, i), BAD);
        refused(Boundary::some, x -> x.safe(0, 44, w, i), BAD);
      }
      // one on; none; no such TELLING
      asks(Boundary::some, x -> x.safe(0, 12, w, NONE), 1);
      asks(Boundary::some, x -> x.safe(0, 12, w, 0), 0);
      for (int i : new int[] {1, 2, 6, 7, MAX}) refused(Boundary::some, x -> x.safe(0, 12, w, i), STUCK);
      asks(Boundary::some, x -> x.safe(0, 22, w, NONE), 0);
      for (int i : new int[] {0, 1, MAX}) refused(Boundary::some, x -> x.safe(0, 22, w, i), STUCK);
      asks(Boundary::some, x -> x.safe(0, 44, w, NONE), NONE);
      for (int i : new int[] {0, 5, 6, MAX}) refused(Boundary::some, x -> x.safe(0, 44, w, i), STUCK);
    }
    refused(Boundary::fresh, x -> x.safe(0, 22, 0, NONE), BAD);
    // he turns about, and four on: six are all told
    LeftIsAgreedOn x = on("person 0 0 0 0");
    int[] told = {1, 1, 0, 0, 0, 0};
    due(x.safe(0, 40, 0, NONE), 6);
    for (int i = 0; i < 6; i++) due(x.safe(0, 40, 0, i), told[i]);
    due(x.safe(0, 40, 0, 6), STUCK);
    due(x.status(15), 1);
  }

  private static void kinds() {
    promise(24, "KINDS (what 0), LEFTS (1) of one by a TELLING and a CELL. BAD SHELF, n, person, cell, what; OTHER; NOTHING; "
        + "BAD; STUCK likewise.");
    refusals((x, s, n) -> x.kinds(s, n, 0, 22, 0), true);
    refusals((x, s, n) -> x.kinds(s, n, 0, 22, 1), true);
    alsoBad((x, s, n, v) -> x.kinds(s, n, v, 22, 0), NO_PEOPLE);
    alsoBad((x, s, n, v) -> x.kinds(s, n, 0, v, 1), NO_CELLS);
    alsoBad((x, s, n, v) -> x.kinds(s, n, 0, 22, v), MIN, -1, 2, 3, MAX);
    asks(Boundary::some, x -> x.kinds(7, 0, 0, 22, 0), 63);
    asks(Boundary::some, x -> x.kinds(7, 0, 0, 22, 1), 3);
    asks(Boundary::some, x -> x.kinds(7, 0, 0, 44, 0), 0);
    asks(Boundary::some, x -> x.kinds(7, 0, 0, 44, 1), 0);
    // each bit alone, and none
    LeftIsAgreedOn x = on("person 0 0 22 0;left 0;old 1;pond 42", "0lo", "1llo", "2lro");
    due(x.kinds(0, 2, 0, 21, 0), 1 + 4 + 8 + 16 + 32);
    due(x.kinds(0, 2, 0, 23, 0), 2);
    due(x.kinds(1, 3, 0, 12, 0), 4 + 32);
    due(x.kinds(1, 3, 0, 32, 0), 1 + 2 + 8 + 16);
    due(x.kinds(2, 3, 0, 32, 0), 4);
    due(x.kinds(0, 2, 0, 21, 1), 1);
    due(x.kinds(0, 2, 0, 23, 1), 2);
    x.pond(12, true);
    due(x.kinds(0, 2, 0, 23, 0), 2 + 16);
    due(x.kinds(2, 3, 0, 12, 0), 1 + 2 + 8 + 16 + 32);
  }

  private static void who() {
    promise(25, "PEOPLE (bits) who come out in a CELL by a TELLING (FALLEN in or not). BAD SHELF, n, cell; OTHER; NOTHING; "
        + "BAD; STUCK as comes().");
    refusals((x, s, n) -> x.who(s, n, 22), true);
    alsoBad((x, s, n, v) -> x.who(s, n, v), NO_CELLS);
    asks(Boundary::some, x -> x.who(7, 0, 22), 1);
    asks(Boundary::some, x -> x.who(7, 0, 44), 0);
    asks(Boundary::some, x -> x.who(7, 2, 13), 6);
    // nobody; all eight
    asks(() -> on("side 5", "0o"), x -> x.who(0, 1, 0), 0);
    LeftIsAgreedOn x = full();
    due(x.who(0, 0, 22), 255);
    due(x.who(0, 0, 21), 0);
  }

  private static void crowd() {
    promise(26, "The CELL in which most come out by a TELLING, of several the first (what 0), how many (1). BAD SHELF, n, what; "
        + "OTHER; NOTHING; BAD; STUCK as comes(), and no PEOPLE.");
    refusals((x, s, n) -> x.crowd(s, n, 0), true);
    refusals((x, s, n) -> x.crowd(s, n, 1), true);
    alsoBad((x, s, n, v) -> x.crowd(s, n, v), MIN, -1, 2, 3, MAX);
    Maker nobody = () -> on("pond 0", "0o", "1?");
    for (int what = 0; what < 2; what++) {
      int w = what;
      refused(nobody, x -> x.crowd(0, 1, w), STUCK);
      refused(nobody, x -> x.crowd(0, 0, w), STUCK);
      refused(nobody, x -> x.crowd(1, 1, w), STUCK);
      refused(nobody, x -> x.crowd(0, 2, w), BAD);
      refused(nobody, x -> x.crowd(2, 0, w), NOTHING);
    }
    refused(nobody, x -> x.crowd(0, 0, 2), BAD);
    // one; all apart; a draw of two and two; eight
    LeftIsAgreedOn x = on("person 0 0 44 0", "0o");
    due(x.crowd(0, 0, 0) * 10 + x.crowd(0, 0, 1), 441);
    x.person(0, 0, 43, 0);
    x.person(0, 0, 0, 0);
    due(x.crowd(0, 0, 0) * 10 + x.crowd(0, 0, 1), 1);
    x.person(0, 0, 44, 0);
    due(x.crowd(0, 0, 0) * 10 + x.crowd(0, 0, 1), 442);
    x.person(0, 0, 43, 0);
    due(x.crowd(0, 0, 0) * 10 + x.crowd(0, 0, 1), 432);
    due(x.crowd(0, 1, 0) * 10 + x.crowd(0, 1, 1), 332);
    // the first CELL, be they the first or the last of the PEOPLE who come there
    int[][] places = {{3, 1, 2}, {1, 2, 3}, {2, 3, 1}, {3, 2, 1}, {1, 2, 1, 2}, {2, 1, 2, 1}, {1, 2, 2, 1}, {2, 1, 1, 2}, {3, 1, 1, 3, 0}};
    for (int[] cells : places) {
      x = fresh();
      row(x, 0, "w");
      for (int cell : cells) x.person(0, 0, cell, 0);
      due(x.crowd(0, 1, 0), 1);
      due(x.crowd(0, 1, 1), cells.length / 2);
    }
    due(full().crowd(0, 0, 0) * 10 + full().crowd(0, 0, 1), 228);
  }

  private static void firstFall() {
    promise(27, "The earliest SIGN (0 on) by which any of them FALLS in; NONE. BAD SHELF, n; OTHER; NOTHING; BAD; STUCK as "
        + "comes(). (NONE isn't refused.)");
    refusals((x, s, n) -> x.firstFall(s, n), true);
    asks(Boundary::some, x -> x.firstFall(7, 0), NONE);
    asks(Boundary::some, x -> x.firstFall(7, 1), 0);
    asks(() -> on("pond 0", "0o"), x -> x.firstFall(0, 1), NONE);
    // the earliest is neither the first one's nor the last one's; the last SIGN of forty
    LeftIsAgreedOn x = on("pond 2;person 0 0 42 0;person 0 0 22 0;person 0 0 32 0;person 0 0 44 1", "0oooo");
    due(x.firstFall(0, 4), 1);
    due(x.firstFall(0, 1), NONE);
    // the first of the PEOPLE alone; the last one alone
    LeftIsAgreedOn y = on("pond 2;person 0 0 22 0;person 0 0 44 1;person 0 0 12 2", "0oooo");
    due(y.firstFall(0, 4), 1);
    y.put(0, 44, 1);
    due(y.firstFall(0, 4), NONE);
    y.put(2, 12, 0);
    due(y.firstFall(0, 4), 0);
    x.row(1, 0, 40);
    for (int i = 0; i < 38; i++) x.set(1, i, 3);
    due(x.firstFall(1, 39), NONE);
    due(x.firstFall(1, 40), 39);
    for (int person = 0; person < 4; person++) x.put(person, 44, 1);
    due(x.firstFall(1, 40), NONE);
  }

  private static void alike() {
    promise(28, "Whether one comes to the same CELL and FACES the same way, if LEFT is 0 and if it is 1: 1, 0. BAD SHELF, n, "
        + "person; OTHER; NOTHING; BAD; STUCK as comes().");
    refusals((x, s, n) -> x.alike(s, n, 0), true);
    alsoBad((x, s, n, v) -> x.alike(s, n, v), NO_PEOPLE);
    asks(Boundary::some, x -> x.alike(7, 0, 0), 1);
    asks(Boundary::some, x -> x.alike(7, 40, 1), 1);
    // the way he faces alone; the CELL alone
    LeftIsAgreedOn x = on("person 0 0 22 0", "0l", "1lolloll", "2ll");
    for (int left = 0; left < 2; left++) {
      x.tell(0, left);
      due(x.alike(0, 1, 0), 0);
      due(x.alike(2, 2, 0), 1);
      due(x.comes(1, 2, 0, 0), left == 0 ? 21 : 23);
      due(x.alike(1, 2, 0), 0);
    }
    x = on("person 0 0 22 0", "0lor");
    due(x.comes(0, 3, 0, 1), 0);
    due(x.alike(0, 3, 0), 0);
    // at the island's end the two come to one CELL
    x = on("pond 1;pond 10;person 0 0 0 2", "0lo");
    due(x.alike(0, 2, 0), 0);
    x = on("person 0 0 2 0;person 1 0 22 0;person 3 0 22 0", "0llo", "1l");
    due(x.alike(0, 3, 0), 1);
    due(x.alike(1, 1, 1), 1);
    due(x.alike(1, 1, 2), 1);
  }

  private static void differ() {
    promise(29, "Behind how many SIGNS (1 on) two (unlike), both from where the first one is, FACING as he does, aren't in the "
        + "same CELL FACING the same way for the first time; NONE. BAD SHELF, n, PEOPLE; OTHER; NOTHING; BAD; STUCK as "
        + "comes(). (NONE isn't refused.)");
    refusals((x, s, n) -> x.differ(s, n, 0, 1), true);
    alsoBad((x, s, n, v) -> x.differ(s, n, v, 1), NO_PEOPLE);
    alsoBad((x, s, n, v) -> x.differ(s, n, 1, v), NO_PEOPLE);
    for (int same = 0; same < 3; same++) {
      int one = same;
      alsoBad((x, s, n, v) -> x.differ(s, n, v, v), one);
    }
    asks(Boundary::some, x -> x.differ(7, 0, 0, 1), NONE);
    asks(Boundary::some, x -> x.differ(7, 40, 0, 1), NONE);
    // the first SIGN; the last of forty
    LeftIsAgreedOn x = on("left 1;person 0 0 22 0;person 1 0 0 3", "0l", "1o");
    due(x.differ(0, 1, 0, 1), 1);
    due(x.differ(0, 0, 0, 1), NONE);
    due(x.differ(1, 1, 0, 1), NONE);
    x.row(2, 0, 40);
    x.set(2, 39, 2);
    due(x.differ(2, 40, 0, 1), 40);
    due(x.differ(2, 39, 0, 1), NONE);
    // the other one is a STUBBORN, a DOUBTER, the first one is
    x = on("left 1;person 3 0 22 0;person 2 0 22 0;person 0 0 44 0;is 0 1", "0ll", "1lwwl");
    due(x.differ(0, 2, 2, 0), NONE);
    due(x.differ(0, 2, 2, 1), 2);
    due(x.differ(1, 4, 1, 2), 4);
    due(x.differ(0, 2, 0, 1), 2);
    x = on("left 1;person 0 0 22 0;person 1 0 0 3", "0l", "1o");
    // they are as one again behind it, but it is the first time that counts
    row(x, 3, "wll");
    due(x.differ(3, 3, 0, 1), 2);
    x.pond(12, true);
    row(x, 3, "ol");
    due(x.differ(3, 2, 0, 1), NONE);
    due(x.differ(3, 2, 1, 0), 2);
  }

  private static void again() {
    promise(30, "The CELL one comes to by a TELLING told over and over, 0 to 20 times, as one TELLING. BAD SHELF, n, person, "
        + "times; OTHER; NOTHING; BAD; STUCK as comes().");
    refusals((x, s, n) -> x.again(s, n, 0, 0), true);
    refusals((x, s, n) -> x.again(s, n, 0, 20), true);
    alsoBad((x, s, n, v) -> x.again(s, n, v, 1), NO_PEOPLE);
    alsoBad((x, s, n, v) -> x.again(s, n, 0, v), MIN, -1, 21, 22, MAX);
    asks(Boundary::some, x -> x.again(7, 40, 0, 0), 22);
    asks(Boundary::some, x -> x.again(7, 1, 0, 1), 12);
    asks(Boundary::some, x -> x.again(3, 0, 0, 20), 22);
    // a lap of seven by seven is 24 CELLS: twenty times is as far as this
    LeftIsAgreedOn x = on("side 7;left 1;person 0 0 60 0", "0o", "1ooooool", "2l");
    due(x.again(0, 1, 0, 5), 10);
    due(x.again(0, 1, 0, 6), 0);
    due(x.again(0, 1, 0, 20), 0);
    int[] corners = {60, 0, 6, 66};
    for (int times = 0; times <= 20; times++) {
      due(x.again(1, 7, 0, times), corners[times % 4]);
      due(x.again(2, 1, 0, times), 60);
    }
    // as one TELLING: the doubter's turns are counted on, and who FELL stays
    x = on("person 2 0 33 0;person 5 0 33 0;person 0 0 44 0;pond 4", "0lo", "1o");
    int[] at = {33, 32, 22, 21, 11, 10, 0};
    for (int times = 0; times < at.length; times++) {
      due(x.again(0, 2, 0, times), at[times]);
      due(x.again(0, 2, 1, times), at[times]);
    }
    for (int times = 4; times <= 20; times++) due(x.again(1, 1, 2, times), 4);
  }

  private static void ring() {
    promise(31, "Behind how many times (1 to 20) of that he is for the first time in the CELL in which he began, FACING as then; "
        + "NONE. BAD SHELF, n, person; OTHER; NOTHING; BAD; STUCK as comes(). (NONE isn't refused.)");
    refusals((x, s, n) -> x.ring(s, n, 0), true);
    alsoBad((x, s, n, v) -> x.ring(s, n, v), NO_PEOPLE);
    asks(Boundary::some, x -> x.ring(3, 0, 0), 1);
    asks(Boundary::some, x -> x.ring(7, 40, 0), NONE);
    asks(Boundary::some, x -> x.ring(7, 1, 2), NONE);
    // 1; 2; 4; the CELL alone isn't enough
    LeftIsAgreedOn x = on("person 0 0 22 0;person 2 0 22 0;person 0 0 0 0", "0llll", "1l", "2lllll", "3o", "4lo");
    due(x.ring(0, 4, 0), 1);
    due(x.ring(1, 1, 0), 4);
    due(x.ring(0, 2, 0), 2);
    due(x.ring(2, 5, 0), 4);
    due(x.ring(1, 1, 1), 2);
    due(x.ring(3, 1, 2), 1);
    due(x.ring(3, 1, 0), NONE);
    due(x.ring(4, 2, 0), 4);
    // twenty is the most
    x = on("pond 14;pond 40;pond 20;pond 3;person 4 0 21 0", "0orollr");
    due(x.ring(0, 6, 0), 20);
    x = on("pond 0;pond 34;pond 43;left 1;person 4 0 33 0", "0orol");
    due(x.ring(0, 4, 0), NONE);
  }

  private static void lonely() {
    promise(32, "PEOPLE (bits) who come out by a TELLING in a CELL in which nobody else does. BAD SHELF, n; OTHER; NOTHING; BAD; "
        + "STUCK as comes().");
    refusals((x, s, n) -> x.lonely(s, n), true);
    asks(Boundary::some, x -> x.lonely(7, 0), 7);
    asks(Boundary::some, x -> x.lonely(7, 2), 1);
    asks(() -> on("side 5", "0o"), x -> x.lonely(0, 1), 0);
    LeftIsAgreedOn x = full();
    due(x.lonely(0, 0), 0);
    x.put(7, 0, 0);
    due(x.lonely(0, 0), 128);
    for (int person = 0; person < 7; person++) x.put(person, person < 5 ? 10 + person : 15 + person, 0);
    due(x.lonely(0, 0), 255);
  }

  private static void idle() {
    promise(33, "How many SIGNS of a TELLING leave one in the CELL he is in. BAD SHELF, n, person; OTHER; NOTHING; BAD; STUCK as "
        + "comes().");
    refusals((x, s, n) -> x.idle(s, n, 0), true);
    alsoBad((x, s, n, v) -> x.idle(s, n, v), NO_PEOPLE);
    asks(Boundary::some, x -> x.idle(7, 0, 0), 0);
    asks(Boundary::some, x -> x.idle(7, 39, 0), 37);
    asks(Boundary::some, x -> x.idle(7, 40, 0), 38);
    // the on by which he FALLS in takes him away, all behind it leave him there
    asks(Boundary::some, x -> x.idle(7, 40, 2), 39);
    LeftIsAgreedOn x = on("person 0 0 22 0", "0wlrwlrw", "1ollollo");
    due(x.idle(0, 7, 0), 7);
    due(x.idle(1, 7, 0), 4);
  }

  private static void lefts() {
    promise(34, "Behind how many lefts (0 to 20), told one behind the other where he is, one FACES so for the first time; NONE. "
        + "BAD. (NONE isn't refused.)");
    for (int person : NO_PEOPLE) refused(Boundary::some, x -> x.lefts(person, 0), BAD);
    for (int faces : new int[] {MIN, -1, 4, 5, MAX}) refused(Boundary::some, x -> x.lefts(0, faces), BAD);
    refused(Boundary::fresh, x -> x.lefts(0, 0), BAD);
    refused(Boundary::full, x -> x.lefts(8, 0), BAD);
    for (int left = 0; left < 2; left++) {
      for (int from = 0; from < 4; from++) {
        LeftIsAgreedOn x = on("left " + left + ";person 0 0 22 " + from + ";person 2 0 22 " + from + ";person 5 0 22 " + from);
        for (int faces = 0; faces < 4; faces++) {
          int quarters = (left == 1 ? faces - from + 4 : from - faces + 4) % 4;
          due(x.lefts(0, faces), quarters);
          due(x.lefts(1, faces), quarters > 1 ? NONE : quarters);
          due(x.lefts(2, faces), quarters > 1 ? NONE : quarters);
        }
        due(x.status(12), 0);
      }
    }
    // 1 is an OLDEN, OLD 0, facing right
    for (int faces = 0; faces < 4; faces++) {
      int f = faces;
      asks(Boundary::some, x -> x.lefts(1, f), (5 - f) % 4);
    }
    asks(() -> on("person 5 0 22 0"), x -> x.lefts(0, 2), NONE);
  }

  private static void reach() {
    promise(35, "In how many CELLS one may be, not FALLEN in, behind a TELLING of n (0 to 6) ons, lefts and rights at most. BAD.");
    for (int person : NO_PEOPLE) refused(Boundary::some, x -> x.reach(person, 0), BAD);
    for (int n : new int[] {MIN, -1, 7, 8, MAX}) refused(Boundary::some, x -> x.reach(0, n), BAD);
    refused(Boundary::fresh, x -> x.reach(0, 0), BAD);
    for (int person = 0; person < 3; person++) {
      int one = person;
      asks(Boundary::some, x -> x.reach(one, 0), 1);
    }
    // in a corner: a turn and an on bring him to 1, one more on to 2, two turns and an on to 10
    LeftIsAgreedOn x = on("person 0 0 0 0");
    int[] corner = {1, 1, 2, 4};
    for (int n = 0; n <= 3; n++) due(x.reach(0, n), corner[n]);
    // shut in by PONDS
    x = on("pond 12;pond 21;pond 23;pond 32;person 0 0 22 0");
    for (int n = 0; n <= 6; n++) due(x.reach(0, n), 1);
    // one way out: right, 23, 24
    x.pond(23, false);
    int[] lane = {1, 1, 2, 3};
    for (int n = 0; n <= 3; n++) due(x.reach(0, n), lane[n]);
    // straight on, all six, and all of them on the way
    x = on("side 7;person 3 0 60 0;pond 61;pond 51;pond 41;pond 31;pond 21;pond 11;pond 1");
    for (int n = 0; n <= 6; n++) due(x.reach(0, n), n + 1);
  }
}
