// The boundary cases that "TELLINGS", "WHAT COMES OF IT" and the REFUSALS name under Terms.
final class TellingBoundaries extends Boundary {
  static void run() {
    signs();
    edges();
    falls();
    quarters();
    waiting();
    voter();
    doubter();
    forder();
    dancer();
    nothingIsChanged();
    comes();
    ponds();
    safe();
    kinds();
    carries();
    power();
    turn();
    meet();
    waits();
    wrong();
    walk();
    year();
    draws();
    shelves();
    refusals();
  }

  // what one FACES behind each of the SIGNS, told with no blank between
  private static void facing(LeftIsAgreedOn x, int person, String signs, String faces) {
    row(x, 7, signs);
    StringBuilder got = new StringBuilder();
    for (int n = 1; n <= signs.length(); n++) got.append(x.comes(7, n, person, 1));
    due(signs + ": " + got, signs + ": " + faces);
  }

  private static void signs() {
    terms("A TELLING is a row of SIGNS: 0 on, 1 left, 2 right, 3 wait.");
    LeftIsAgreedOn x = on("person 0 0 22 0");
    x.row(0, 3, 1);
    int[] comes = {120, 223, 221, 220};
    for (int sign = 0; sign < 4; sign++) {
      x.set(0, 0, sign);
      due(x.comes(0, 1, 0, 0) * 10 + x.comes(0, 1, 0, 1), comes[sign]);
    }
    for (long v : new long[] {-1, 4, 5, 255, 256, 1L << 32, (1L << 32) + 3, Long.MIN_VALUE, Long.MAX_VALUE}) {
      x.set(0, 0, v);
      due(x.comes(0, 1, 0, 0), STUCK);
      // no element at all is a TELLING, too
      due(x.comes(0, 0, 0, 0), 22);
    }
  }

  private static void edges() {
    terms("On: one goes a CELL as one FACES, if there is one of the island (else one stays)");
    for (int n = 5; n <= 7; n++) {
      LeftIsAgreedOn x = on("person 0 0 0 0", "0oooooooooo");
      x.side(n);
      int last = n - 1;
      for (int at = 0; at < n; at++) {
        int[] from = {at, 10 * at + last, 10 * last + at, 10 * at};
        int[] inner = {10 + at, 10 * at + last - 1, 10 * last - 10 + at, 10 * at + 1};
        for (int faces = 0; faces < 4; faces++) {
          x.put(0, from[faces], faces);
          due(x.comes(0, 1, 0, 0), from[faces]);
          due(x.comes(0, 10, 0, 0), from[faces]);
          due(x.comes(0, 10, 0, 2), NONE);
          x.put(0, inner[faces], faces);
          due(x.comes(0, 1, 0, 0), from[faces]);
        }
      }
      x.put(0, 11 * last, 3);
      due(x.comes(0, 10, 0, 0), 10 * last);
      x.put(0, 0, 2);
      due(x.comes(0, 10, 0, 0), 10 * last);
    }
    // one stays, and goes on from there
    LeftIsAgreedOn x = on("person 0 0 4 0", "0oolo", "1oro");
    due(x.comes(0, 4, 0, 0), 3);
    due(x.comes(1, 3, 0, 0), 4);
    // the end moves when the island grows
    x.put(0, 44, 1);
    due(x.comes(0, 1, 0, 0), 44);
    x.side(6);
    due(x.comes(0, 1, 0, 0), 45);
    due(x.comes(0, 2, 0, 0), 45);
    // an end is no POND, though there is one at the island's other end
    x = on("pond 10;pond 4;person 0 0 14 1;person 0 0 40 2;person 0 0 0 3;person 0 0 0 0", "0o");
    for (int person = 0; person < 4; person++) due(x.comes(0, 1, person, 2), NONE);
  }

  private static void falls() {
    terms("if it is a POND, one FALLS in, and all SIGNS behind it do nothing.");
    LeftIsAgreedOn x = on("pond 12;person 0 0 22 0;person 2 0 32 0;person 5 0 42 0", "0ooolorw", "1woooo", "2oolrwo");
    for (int n = 1; n <= 7; n++) {
      due(x.comes(0, n, 0, 0), 12);
      due(x.comes(0, n, 0, 1), 0);
      due(x.comes(0, n, 0, 2), 0);
    }
    due(x.comes(0, 0, 0, 2), NONE);
    due(x.comes(1, 1, 0, 2), NONE);
    due(x.comes(1, 2, 0, 2), 1);
    due(x.comes(0, 1, 1, 2), NONE);
    due(x.comes(0, 2, 1, 2), 1);
    due(x.comes(2, 6, 1, 0) * 10 + x.comes(2, 6, 1, 1), 120);
    due(x.comes(1, 3, 2, 2), NONE);
    due(x.comes(1, 4, 2, 2), 3);
    // the 40th SIGN
    x.row(3, 0, 40);
    for (int i = 0; i < 39; i++) x.set(3, i, 3);
    due(x.comes(3, 39, 0, 2), NONE);
    due(x.comes(3, 40, 0, 2), 39);
    // a POND at the island's end, too
    x = on("pond 2;person 0 0 12 0", "0oo");
    due(x.comes(0, 2, 0, 0) * 10 + x.comes(0, 2, 0, 2), 20);
  }

  private static void quarters() {
    terms("Left: one turns by one quarter: as a clock's hand goes, if one goes by 1; against it, if one goes by 0. "
        + "Right: the other way about.");
    for (int left = 0; left < 2; left++) {
      for (int faces = 0; faces < 4; faces++) {
        LeftIsAgreedOn x = on("person 0 0 22 " + faces + ";left " + left, "0llll", "1rrrr");
        for (int n = 0; n <= 4; n++) {
          int clock = left == 1 ? n : 4 - n;
          due(x.comes(0, n, 0, 1), (faces + clock) % 4);
          due(x.comes(1, n, 0, 1), (faces + 4 - clock) % 4);
          due(x.comes(0, n, 0, 0), 22);
        }
      }
    }
  }

  private static void waiting() {
    terms("Wait: nothing.");
    LeftIsAgreedOn x = on("pond 13;person 0 0 22 3;person 4 0 12 0", "0wwww");
    for (int person = 0; person < 2; person++) {
      due(x.comes(0, 4, person, 0), 22 - 10 * person);
      due(x.comes(0, 4, person, 1), 3 - 3 * person);
      due(x.comes(0, 4, person, 2), NONE);
    }
    facing(on("person 2 0 22 0"), 0, "wlwlwwlwl", "033000330");
    facing(on("person 5 0 22 0"), 0, "wlwlwwlwl", "033000330");
  }

  private static void voter() {
    terms("What one goes by at a turn (a left or right): VOTER: LEFT. OLDEN: OLD. STUBBORN: what he is FOR.");
    for (int bits = 0; bits < 8; bits++) {
      int left = bits & 1, old = bits >> 1 & 1, is = bits >> 2;
      LeftIsAgreedOn x = on("person 0 0 22 0;person 1 0 22 0;person 3 0 22 0;is 2 " + is + ";left " + left + ";old " + old);
      x.isFor(0, 1 - left);
      x.isFor(1, 1 - old);
      int[] by = {left, old, is};
      for (int person = 0; person < 3; person++) {
        facing(x, person, "lllll", by[person] == 1 ? "12301" : "32103");
        facing(x, person, "rrlrl", by[person] == 1 ? "32323" : "12121");
      }
    }
  }

  private static void doubter() {
    terms("DOUBTER: LEFT at his first, third, fifth turn of this TELLING and so on, the other one (1 less it) at those between.");
    LeftIsAgreedOn x = on("person 2 0 22 0");
    facing(x, 0, "llllllllll", "3030303030");
    facing(x, 0, "rrrrrrr", "1010101");
    facing(x, 0, "lrlrlrlr", "32103210");
    facing(x, 0, "rlrl", "1230");
    facing(x, 0, "owlowl", "003330");
    x.tell(0, 1);
    facing(x, 0, "llllllllll", "1010101010");
    facing(x, 0, "lrlrlrlr", "12301230");
    // of this TELLING: the next one begins anew; told over and over, it is one
    row(x, 0, "lo");
    due(x.walk(0, 2, 0), 23);
    due(x.walk(0, 2, 0), 33);
    x.put(0, 22, 0);
    due(x.again(0, 2, 0, 2), 13);
    // forty turns
    x.row(1, 0, 40);
    for (int i = 0; i < 40; i++) x.set(1, i, 1);
    due(x.comes(1, 39, 0, 1), 1);
    due(x.comes(1, 40, 0, 1), 0);
  }

  private static void forder() {
    terms("FORDER: LEFT, but the other one, if a POND is beside his CELL (up, right, down, left) then.");
    for (int left = 0; left < 2; left++) {
      for (int pond : new int[] {0, 1, 2, 3, 4, 11, 12, 13, 14, 20, 21, 23, 24, 31, 32, 33, 42}) {
        boolean isBeside = pond == 12 || pond == 23 || pond == 32 || pond == 21;
        int by = isBeside ? 1 - left : left;
        LeftIsAgreedOn x = on("pond " + pond + ";person 4 0 22 0;left " + left);
        facing(x, 0, "llrl", by == 1 ? "1212" : "3232");
      }
    }
    // several beside him are as one
    facing(on("pond 12;pond 21;person 4 0 22 0"), 0, "ll", "12");
    facing(on("pond 12;pond 21;pond 23;pond 32;person 4 0 22 0"), 0, "ll", "12");
    // the island's ends: what is at the other end isn't beside
    facing(on("pond 4;pond 40;pond 44;person 4 0 0 0"), 0, "ll", "32");
    facing(on("pond 0;pond 13;person 4 0 4 0;pond 10"), 0, "ll", "32");
    facing(on("pond 4;person 4 0 10 0"), 0, "ll", "32");
    facing(on("pond 0;pond 4;person 4 0 44 0"), 0, "ll", "32");
    facing(on("pond 1;person 4 0 0 0"), 0, "ll", "12");
    facing(on("pond 43;person 4 0 44 0"), 0, "ll", "12");
    // then: each turn by where he is then
    facing(on("pond 13;person 4 0 21 1"), 0, "looll", "00032");
    facing(on("pond 23;person 4 0 21 1"), 0, "oll", "123");
    facing(on("pond 23;person 4 0 22 3"), 0, "lolo", "0033");
  }

  private static void dancer() {
    terms("DANCER: LEFT at his first turn; at each other the other one than at the one ahead, if that was the same SIGN "
        + "(left and left, right and right; waits and ons between don't matter), else the same one.");
    LeftIsAgreedOn x = on("person 5 0 22 0");
    facing(x, 0, "l", "3");
    facing(x, 0, "r", "1");
    facing(x, 0, "llll", "3030");
    facing(x, 0, "rrrr", "1010");
    facing(x, 0, "lrlr", "3030");
    facing(x, 0, "llrr", "3030");
    facing(x, 0, "llrrl", "30303");
    facing(x, 0, "rrll", "1010");
    facing(x, 0, "lwwl", "3330");
    facing(x, 0, "lool", "3330");
    facing(x, 0, "lwor", "3330");
    facing(x, 0, "rwowr", "11110");
    x.tell(0, 1);
    facing(x, 0, "l", "1");
    facing(x, 0, "r", "3");
    facing(x, 0, "llll", "1010");
    facing(x, 0, "llrr", "1010");
    // each TELLING has a first turn of its own
    row(x, 0, "l");
    due(x.walk(0, 1, 0), 22);
    due(x.walk(0, 1, 0), 22);
    due(x.personOf(0, 3), 2);
    row(x, 1, "lo");
    x.put(0, 22, 0);
    due(x.again(1, 2, 0, 2), 13);
  }

  private static void nothingIsChanged() {
    terms("WHAT COMES OF IT (nothing is changed)");
    LeftIsAgreedOn x = some();
    for (int person = 0; person < 3; person++) {
      for (int what = 0; what < 3; what++) x.comes(7, 40, person, what);
      x.ponds(7, 40, person);
      x.safe(person, 0, 0, NONE);
      x.safe(person, 0, 1, NONE);
      x.kinds(7, 40, person, 0, 0);
      x.kinds(7, 40, person, 0, 1);
      x.alike(7, 40, person);
      x.differ(7, 40, person, (person + 1) % 3);
      x.again(7, 40, person, 20);
      x.ring(7, 40, person);
      x.idle(7, 40, person);
      x.lefts(person, 1);
      x.reach(person, 6);
      x.swing(person);
      x.personOf(person, 5);
      x.meet(7, 40, person, 7, 40, (person + 1) % 3);
      x.waits(7, 40, person, 7, 40, (person + 1) % 3);
    }
    x.fell(7, 40);
    x.who(7, 40, 0);
    x.crowd(7, 40, 0);
    x.firstFall(7, 40);
    x.lonely(7, 40);
    x.open(22, 0);
    x.shore();
    x.bloc(1);
    x.mightiest();
    x.agreed();
    x.carries();
    x.turn(1);
    x.judge(2, 3);
    x.says(1, 1);
    x.element(2, 2);
    unchanged(x, some(), 0);
  }

  private static void comes() {
    terms("COMES of one by a TELLING: the CELL, FACES behind it, the number of the SIGN by which he FELL in (NONE: he didn't).");
    LeftIsAgreedOn x = on("pond 12;person 0 0 22 0", "0o", "1");
    due(x.comes(1, 0, 0, 0), 22);
    due(x.comes(1, 0, 0, 1), 0);
    due(x.comes(1, 0, 0, 2), NONE);
    due(x.comes(0, 1, 0, 2), 0);
    terms("FELL of a TELLING: how many of all PEOPLE would FALL in.");
    due(x.fell(1, 0), 0);
    due(x.fell(0, 1), 1);
    x = on("pond 12", "0o");
    due(x.fell(0, 1), 0);
    for (int person = 0; person < 8; person++) x.person(person % 6, 0, 22, 0);
    due(x.fell(0, 1), 8);
    due(x.fell(0, 0), 0);
  }

  private static void ponds() {
    terms("PONDS by one and a TELLING: from how many CELLS (no POND; FACES as he does) he would FALL in.");
    LeftIsAgreedOn x = on("person 0 0 22 0;person 0 0 0 2", "0o", "1");
    due(x.ponds(0, 1, 0), 0);
    due(x.ponds(1, 0, 0), 0);
    x.pond(44, true);
    due(x.ponds(0, 1, 0), 0);
    due(x.ponds(0, 1, 1), 1);
    // every CELL but theirs is a POND
    for (int cell = 0; cell < 50; cell++) if (cell % 10 < 5) x.pond(cell, true);
    due(x.status(5), 23);
    due(x.ponds(0, 1, 0), 1);
    due(x.ponds(0, 1, 1), 2);
    due(x.ponds(1, 0, 1), 0);
  }

  private static void safe() {
    terms("SAFE for one to a CELL: the shortest TELLING of ons, lefts and rights (6 at most) by which he comes there, "
        + "and doesn't FALL in, both if LEFT is 0 and if it is 1 (OLD, FOR as they are), of several the first by rows: "
        + "how many SIGNS; the i-th; NONE. SHORT: the same by LEFT as it is alone.");
    LeftIsAgreedOn x = on("side 7;person 0 0 60 0;person 0 0 66 0;person 3 0 60 3;is 2 1");
    for (int what = 0; what < 2; what++) {
      due(x.safe(0, 60, what, NONE), 0);
      due(x.safe(0, 50, what, NONE), 1);
      due(x.safe(0, 0, what, NONE), 6);
      due(x.safe(1, 6, what, NONE), 6);
      // 5 ons and a turn; with 6 it would be 7
      due(x.safe(2, 10, what, NONE), 6);
      due(x.safe(2, 0, what, NONE), NONE);
      due(x.safe(0, 66, what, NONE), NONE);
      for (int i = 0; i < 6; i++) due(x.safe(0, 0, what, i), 0);
      due(x.safe(0, 0, what, 6), STUCK);
    }
    // turned about by 4, on by 2; by 3 it would be 7
    x = on("person 0 0 22 0;pond 11");
    due(x.safe(0, 32, 0, NONE), 3);
    due(x.safe(0, 42, 0, NONE), 4);
    x.put(0, 12, 0);
    due(x.safe(0, 42, 0, NONE), 5);
    x.put(0, 2, 0);
    due(x.safe(0, 42, 0, NONE), 6);
    x.side(6);
    due(x.safe(0, 52, 0, NONE), NONE);
    // both, or as it is alone
    x = on("person 0 0 22 0;person 1 0 22 0;person 3 0 22 0;is 2 1");
    due(x.safe(0, 21, 0, NONE), NONE);
    due(x.safe(0, 21, 1, NONE), 2);
    due(x.safe(0, 21, 1, 0), 1);
    due(x.safe(0, 23, 1, 0), 2);
    x.tell(0, 1);
    due(x.safe(0, 21, 1, 0), 2);
    due(x.safe(0, 23, 1, 0), 1);
    // both, though LEFT is 1
    due(x.safe(0, 21, 0, NONE), NONE);
    due(x.safe(0, 23, 0, NONE), NONE);
    due(x.safe(0, 32, 0, NONE), 3);
    // OLD, FOR as they are
    due(x.safe(1, 21, 0, 0), 1);
    x.tell(1, 1);
    due(x.safe(1, 21, 0, 0), 2);
    due(x.safe(2, 21, 0, 0), 2);
    x.isFor(2, 0);
    due(x.safe(2, 21, 0, 0), 1);
    // of several the first: on ahead of left, left ahead of right
    x = on("person 1 0 22 0");
    due(x.safe(0, 11, 1, 0) * 100 + x.safe(0, 11, 1, 1) * 10 + x.safe(0, 11, 1, 2), 10);
    due(x.safe(0, 32, 1, 0) * 100 + x.safe(0, 32, 1, 1) * 10 + x.safe(0, 32, 1, 2), 110);
    // his turns are counted from the TELLING's begin: a DOUBTER turns about by left and right, a DANCER not at all
    x = on("person 2 0 22 0;person 5 0 22 0;person 4 0 22 0");
    for (int left = 0; left < 2; left++) {
      x.tell(0, left);
      for (int what = 0; what < 2; what++) {
        due(x.safe(0, 32, what, NONE), 3);
        due(x.safe(0, 32, what, 0) * 100 + x.safe(0, 32, what, 1) * 10 + x.safe(0, 32, what, 2), 120);
        due(x.safe(1, 32, what, NONE), NONE);
        due(x.safe(2, 32, what, NONE), 3);
        due(x.safe(2, 32, what, 0) * 100 + x.safe(2, 32, what, 1) * 10 + x.safe(2, 32, what, 2), 110);
      }
    }
    // round the pond at 12: left, on, and back to where he faced
    x = on("pond 12;person 2 0 22 0;person 5 0 22 0;person 0 0 22 0");
    int[] about = {1010, 1010, 1020};
    for (int person = 0; person < 3; person++) {
      int told = 0;
      for (int i = 0; i < 4; i++) told = 10 * told + x.safe(person, 11, 1, i);
      due(told, about[person]);
    }
    // by LEFT 0 alone, by 1 alone, he would FALL in
    x = on("pond 21;person 0 0 22 0;person 2 0 22 0");
    due(x.safe(0, 32, 0, NONE), 3);
    due(x.safe(0, 21, 0, NONE), NONE);
    due(x.safe(0, 21, 1, NONE), NONE);
    x = on("pond 12;person 0 0 22 0");
    due(x.safe(0, 2, 0, NONE), NONE);
    due(x.safe(0, 22, 0, NONE), 0);
    // no way out at all
    x = on("pond 1;pond 10;person 0 0 0 1");
    due(x.safe(0, 0, 0, NONE), 0);
    for (int cell = 0; cell < 50; cell++) if (cell % 10 < 5 && cell > 0) due(x.safe(0, cell, 1, NONE), NONE);
  }

  private static void kinds() {
    terms("KINDS of one by a TELLING and a CELL: KINDS (bits) by which he would come out there (FALLEN in or not). "
        + "LEFTS: which LEFT (bits 0, 1) would bring him there.");
    LeftIsAgreedOn x = on("pond 12;person 3 0 22 0", "0o", "1", "2l");
    due(x.kinds(1, 0, 0, 22, 0), 63);
    due(x.kinds(1, 0, 0, 21, 0), 0);
    due(x.kinds(0, 1, 0, 12, 0), 63);
    due(x.kinds(0, 1, 0, 22, 0), 0);
    due(x.kinds(1, 0, 0, 22, 1), 3);
    due(x.kinds(0, 1, 0, 12, 1), 3);
    due(x.kinds(0, 1, 0, 2, 1), 0);
    due(x.kinds(2, 1, 0, 22, 1), 3);
  }

  private static void carries() {
    terms("CARRIES: 1, if those FOR 1 weigh more together than those FOR 0; 0, if less; LEFT as it is, if neither.");
    for (int left = 0; left < 2; left++) {
      LeftIsAgreedOn x = fresh();
      x.tell(0, left);
      due(x.carries(), left);
      x.person(0, 5, 0, 0);
      due(x.carries(), 0);
      x.person(0, 4, 0, 0);
      x.isFor(1, 1);
      due(x.carries(), 0);
      x.person(0, 1, 0, 0);
      x.isFor(2, 1);
      due(x.carries(), left);
      x.person(0, 1, 0, 0);
      x.isFor(3, 1);
      due(x.carries(), 1);
      x.isFor(0, 1);
      due(x.carries(), 1);
      // they weigh nothing, though they are many
      x = on("person 0 0 0 0;person 0 0 0 0;is 0 1;is 1 1");
      x.tell(0, left);
      due(x.carries(), left);
    }
  }

  private static void power() {
    terms("POWER of one: in how many sets of all others (by any of them) the set doesn't weigh more than half of all, but does with him.");
    int[][] weights = {{5}, {0}, {2, 2}, {1, 1, 1}, {2, 1}, {2, 1, 1}, {3, 1, 1, 1}, {0, 0}, {4, 2, 1}, {1, 1, 1, 1},
        {1, 1, 1, 1, 1, 1, 1, 1}, {9, 1, 1, 1, 1, 1, 1, 1}, {9, 9, 9, 9, 9, 9, 9, 9}};
    int[][] powers = {{1}, {0}, {1, 1}, {2, 2, 2}, {2, 0}, {3, 1, 1}, {7, 1, 1, 1}, {0, 0}, {4, 0, 0}, {3, 3, 3, 3},
        {35, 35, 35, 35, 35, 35, 35, 35}, {128, 0, 0, 0, 0, 0, 0, 0}, {35, 35, 35, 35, 35, 35, 35, 35}};
    for (int w = 0; w < weights.length; w++) {
      LeftIsAgreedOn x = fresh();
      for (int a : weights[w]) x.person(0, a, 0, 0);
      for (int person = 0; person < weights[w].length; person++) due(x.personOf(person, 5), powers[w][person]);
    }
  }

  private static void turn() {
    terms("TURN: the fewest who must be FOR the other one so that CARRIES is 1 less what it is now: how many "
        + "(NONE: it can't be), of several the first set as bits.");
    LeftIsAgreedOn x = fresh();
    due(x.turn(0), NONE);
    due(x.turn(1), NONE);
    for (int person = 0; person < 8; person++) x.person(0, 0, 0, 0);
    due(x.turn(0), NONE);
    due(x.turn(1), NONE);
    x = fresh();
    for (int person = 0; person < 8; person++) x.person(0, 1, 0, 0);
    // LEFT 0: half of them is too few; LEFT 1: half of them does
    due(x.turn(0) * 1000 + x.turn(1), 5031);
    x.tell(0, 1);
    due(x.turn(0) * 1000 + x.turn(1), 4015);
    for (int person = 0; person < 8; person++) x.isFor(person, 1);
    due(x.turn(0) * 1000 + x.turn(1), 5031);
    x.tell(0, 0);
    due(x.turn(0) * 1000 + x.turn(1), 4015);
    // of several the first: 1 and 2 are bits 0 and 1, ahead of 4 and what is with it
    x = on("person 0 3 0 0;person 0 4 0 0;person 0 4 0 0;person 0 4 0 0");
    due(x.turn(0) * 1000 + x.turn(1), 2006);
    x = on("person 0 1 0 0;person 0 2 0 0;person 0 9 0 0");
    due(x.turn(0) * 1000 + x.turn(1), 1004);
    x = on("person 0 9 0 0");
    due(x.turn(0) * 1000 + x.turn(1), 1001);
    // one alone, though it needs but half, as LEFT has it already
    x = on("person 0 2 0 0;person 0 2 0 0;left 1");
    due(x.turn(0) * 1000 + x.turn(1), 1001);
    x.tell(0, 0);
    due(x.turn(0) * 1000 + x.turn(1), 2003);
  }

  private static void meet() {
    terms("MEET of two by TELLINGS told in ROWS, SIGN by SIGN at once (one whose TELLING is done, or who FELL, stays): "
        + "behind how many SIGNS (1 on) both are in one CELL, or have gone each to where the other was; "
        + "0: they are in one CELL ahead of all; NONE: never.");
    LeftIsAgreedOn x = on("person 0 0 20 1;person 0 0 21 3;person 0 0 24 3;person 0 0 20 0", "0oooo", "1");
    due(x.meet(0, 4, 0, 0, 4, 3), 0);
    due(x.meet(1, 0, 0, 1, 0, 3), 0);
    due(x.meet(0, 1, 0, 0, 1, 1), 1);
    due(x.meet(0, 4, 0, 0, 4, 1), 1);
    due(x.meet(0, 1, 0, 1, 0, 1), 1);
    due(x.meet(1, 0, 0, 0, 1, 1), 1);
    due(x.meet(1, 0, 0, 1, 0, 1), NONE);
    due(x.meet(0, 2, 0, 0, 2, 2), 2);
    due(x.meet(0, 1, 0, 0, 1, 2), NONE);
    // the last SIGN of forty, of the first one's or of the other's
    x.row(2, 0, 40);
    for (int i = 0; i < 39; i++) x.set(2, i, 3);
    due(x.meet(2, 40, 0, 1, 0, 1), 40);
    due(x.meet(1, 0, 0, 2, 40, 1), 40);
    due(x.meet(2, 40, 0, 2, 40, 1), 40);
    due(x.meet(2, 39, 0, 2, 39, 1), NONE);
    due(x.meet(0, 0, 0, 2, 40, 1), 40);
    // who FELL stays: the other one comes there, too
    x = on("pond 22;person 0 0 21 1;person 0 0 24 3;person 0 0 44 0", "0ooo", "1wwoo");
    due(x.meet(0, 3, 0, 0, 3, 1), 2);
    due(x.meet(0, 3, 0, 1, 4, 1), 4);
    due(x.meet(0, 3, 0, 0, 3, 2), NONE);
    // one goes to where the other was, but the other doesn't come to where he was
    x = on("person 0 0 21 1;person 0 0 22 1;person 0 0 22 0", "0o");
    due(x.meet(0, 1, 0, 0, 1, 1), NONE);
    due(x.meet(0, 1, 0, 0, 1, 2), NONE);
    // two at the island's end who stay
    x = on("person 0 0 0 0;person 0 0 1 0", "0oo");
    due(x.meet(0, 2, 0, 0, 2, 1), NONE);
  }

  private static void waits() {
    terms("WAIT: the fewest waits (0 to 9) ahead of the second one's TELLING so that they never MEET; NONE.");
    LeftIsAgreedOn x = on("side 7;person 0 0 63 0;person 0 0 20 1", "1ooo");
    // the first one comes to 23 with his fourth on and leaves it with the fifth; the second one comes there
    // with his third, to stay: he must wait so long that this is behind it
    for (int ahead = 0; ahead <= 10; ahead++) {
      row(x, 0, "w".repeat(ahead) + "ooooo");
      due(x.waits(0, ahead + 5, 0, 1, 3, 1), ahead <= 7 ? ahead + 2 : NONE);
    }
    due(x.waits(0, 0, 0, 1, 0, 1), 0);
    x.put(1, 63, 0);
    due(x.waits(0, 0, 0, 1, 0, 1), NONE);
    // forty SIGNS and the waits ahead of them: the last one of them is told, too
    x = on("person 0 0 0 1;person 0 0 4 3");
    x.row(0, 0, 40);
    x.row(1, 0, 40);
    for (int i = 0; i < 39; i++) x.set(1, i, 3);
    x.set(1, 39, 0);
    due(x.meet(0, 3, 0, 1, 40, 1), 40);
    due(x.waits(0, 3, 0, 1, 40, 1), NONE);
    due(x.waits(0, 3, 0, 1, 39, 1), 0);
  }

  private static void wrong() {
    terms("A told TELLING: WRONG: the first element that is no SIGN; NONE.");
    LeftIsAgreedOn x = fresh();
    x.row(0, 3, 40);
    due(x.judge(0, 40), NONE);
    for (long v : new long[] {Long.MIN_VALUE, MIN, -1, 4, 5, 256, 1L << 32, (1L << 32) + 1, Long.MAX_VALUE}) {
      x.set(0, 39, v);
      due(x.judge(0, 40), 39);
      due(x.judge(0, 39), NONE);
    }
    for (int sign = 0; sign < 4; sign++) {
      x.set(0, 39, sign);
      due(x.judge(0, 40), NONE);
    }
    x.set(0, 1, 4);
    x.set(0, 0, -1);
    due(x.judge(0, 40), 0);
    due(x.judge(0, 0), NONE);
    x.set(0, 0, 0);
    due(x.judge(0, 40), 1);
  }

  private static void walk() {
    terms("IN TRUTH: one walks by a TELLING (if he FALLS in, he is pulled out: he stands where he was ahead of the on, "
        + "FACES as then; FALLEN is 1 more).");
    LeftIsAgreedOn x = on("pond 12;person 0 0 42 0;person 0 0 33 2", "0ooolrow");
    due(x.walk(0, 2, 0), 22);
    due(x.status(7), 0);
    due(x.walk(0, 1, 0), 22);
    due(x.status(7), 1);
    due(x.personOf(0, 2), 22);
    due(x.isPond(12), 1);
    // one FALL a walk, and all SIGNS behind it do nothing
    due(x.walk(0, 7, 0), 22);
    due(x.status(7), 2);
    due(x.personOf(0, 3), 0);
    due(x.walk(0, 0, 0), 22);
    due(x.status(7), 2);
    // the island's end
    due(x.walk(0, 3, 1), 43);
    due(x.status(7), 2);
    due(x.personOf(1, 3), 2);
  }

  private static void year() {
    terms("A YEAR: OLD becomes LEFT, LEFT becomes CARRIES; then, by numbers, a DRAW below 12 for each: "
        + "he is FOR the other one, if it is below DOUBT. YEARS is 1 more.");
    for (int left = 0; left < 2; left++) {
      LeftIsAgreedOn x = fresh();
      x.tell(0, left);
      x.tell(1, 1 - left);
      due(x.years(1), left);
      due(x.status(3), left);
      due(x.status(6), 1);
      due(x.status(9), 1);
    }
    // each DRAW against each DOUBT
    for (int draw = 0; draw < 12; draw++) {
      int seed = seedFor(draw);
      LeftIsAgreedOn x = on("person 0 1 0 0");
      for (int doubt = 0; doubt <= 12; doubt++) {
        x.tell(2, doubt);
        x.isFor(0, doubt % 2);
        x.seed(seed);
        x.years(1);
        due(x.personOf(0, 4), draw < doubt ? 1 - doubt % 2 : doubt % 2);
      }
    }
    // CARRIES of the year ahead, not of those who have doubted since
    LeftIsAgreedOn x = on("person 0 1 0 0;doubt 12");
    due(x.years(1), 0);
    due(x.personOf(0, 4), 1);
    due(x.years(1), 1);
    due(x.status(3), 0);
    due(x.years(1), 0);
    due(x.status(3), 1);
    due(x.status(6), 3);
  }

  private static int seedFor(int draw) {
    for (int seed = 0; seed < 100000; seed++) if (upper(next(seed)) % 12 == draw) return seed;
    return 0;
  }

  private static int next(int seed) {
    return (int) (seed * 1103515245L + 12345L);
  }

  private static int upper(int seed) {
    return (int) ((seed & 0xFFFFFFFFL) / 65536);
  }

  private static void draws() {
    terms("A DRAW below n: SEED (1 at first) becomes SEED times 1103515245, and 12345 (an int, wrapping); "
        + "its upper 16 bits, no sign, modulo n.");
    due(fresh().status(9), 1);
    due(fresh().seed(1), 1);
    int below = 0, above = 0;
    for (int from : new int[] {0, 1, -1, 2, 3, 4, 5, 6, 7, 8, 9, MIN, MIN + 1, MAX, MAX - 1, 65535, 65536, -65536, 0x7FFF0000, 0x80000000}) {
      LeftIsAgreedOn x = on("person 0 1 0 0;doubt 6");
      x.seed(from);
      int seed = from, is = 0;
      for (int year = 0; year < 20; year++) {
        seed = next(seed);
        if (seed < 0) below++;
        else above++;
        if (upper(seed) % 12 < 6) is = 1 - is;
        x.years(1);
        due(x.status(9), seed);
        due(x.personOf(0, 4), is);
      }
    }
    due(below > 100 && above > 100 ? 1 : 0, 1);
    // a draw for each, in the order of their numbers
    LeftIsAgreedOn x = fresh();
    for (int person = 0; person < 8; person++) x.person(3, 0, 0, 0);
    x.years(1);
    int seed = 1;
    for (int person = 0; person < 8; person++) {
      seed = next(seed);
      due(x.personOf(person, 4), upper(seed) % 12 < 3 ? 1 : 0);
    }
    due(x.status(9), seed);
  }

  private static void shelves() {
    terms("SHELVES 0 to 7 hold NOTHING (at first), a ROW, or one of the PEOPLE. A ROW has a SORT (0 bytes, 1 shorts, "
        + "2 ints, 3 longs, 4 booleans) and 0 to 40 elements (0, or not so, at first); what is put in keeps its lowest "
        + "bits (of booleans: whether it is not 0); told they are numbers (1, 0).");
    LeftIsAgreedOn x = on("person 0 0 0 0");
    for (int s = 0; s < 8; s++) {
      due(x.holds(s), NONE);
      due(x.row(s, s % 5, 40), 1);
      due(x.holds(s), s % 5);
      due(x.element(s, 0) + x.element(s, 39), 0);
      x.set(s, 0, 1 + s % 5);
      x.set(s, 39, 1);
    }
    for (int s = 0; s < 8; s++) {
      due(x.element(s, 0), s % 5 == 4 ? 1 : 1 + s % 5);
      due(x.element(s, 39), 1);
      due(x.element(s, 1) + x.element(s, 38), 0);
      due(x.show(s, 0), 1);
      due(x.holds(s), 10);
      due(x.row(s, 1, 0), 1);
      due(x.holds(s), 1);
      due(x.element(s, 0), 0);
      due(x.row(s, 3, 40), 1);
      due(x.element(s, 0) + x.element(s, 39), 0);
      due(x.show(s, NONE), 1);
      due(x.holds(s), NONE);
    }
    long[] put = {0, 1, -1, 127, 128, 255, 256, -128, -129, 32767, 32768, 65535, 65536, -32769, MAX, MAX + 1L, MIN,
        MIN - 1L, 0xFFFFFFFFL, 1L << 32, Long.MAX_VALUE, Long.MIN_VALUE};
    for (int sort = 0; sort < 5; sort++) {
      x = fresh();
      x.row(0, sort, 1);
      for (long v : put) {
        due(x.set(0, 0, v), 1);
        long size = 1L << (8 << sort);
        long low = Math.floorMod(v, sort < 3 ? size : 2);
        long want = sort == 3 ? v : sort == 4 ? (v == 0 ? 0 : 1) : low >= size / 2 ? low - size : low;
        due(x.element(0, 0), want);
      }
    }
  }

  private static void refusals() {
    terms("REFUSALS (the call answers the number; nothing changes but how many there were; the first that fits as each "
        + "line has them): -2 BAD a number that may not be, nothing of that number. -3 OTHER: a SHELF that holds another "
        + "thing than is wanted. -4 NOTHING: a SHELF that holds NOTHING. -5 STUCK: it can't be as things stand. -6 FULL.");
    LeftIsAgreedOn x = full();
    int[] counts = new int[5];
    for (int time = 0; time < 20; time++) {
      due(x.side(8), BAD);
      due(x.says(0, 0), OTHER);
      due(x.set(7, 0, 0), NOTHING);
      due(x.back(), STUCK);
      due(x.feed(0), FULL);
      if (time % 2 == 0) due(x.put(0, 44, 0), STUCK);
      for (int r = 0; r < 5; r++) counts[r] += r == 3 && time % 2 == 0 ? 2 : 1;
      for (int r = 0; r < 5; r++) due(x.status(12 + r), counts[r]);
    }
  }
}
