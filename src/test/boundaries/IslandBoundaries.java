// The boundary cases of promises 9 to 14, 18, 19, 36 and 37.
final class IslandBoundaries extends Boundary {
  private static final int[] NO_CELLS = {MIN, -10, -1, 5, 9, 15, 45, 50, 54, 55, 66, 70, 100, MAX};
  private static final int[] NO_PEOPLE = {MIN, -2, -1, 3, 4, 8, MAX};
  private static final int[] NO_FACES = {MIN, -1, 4, 5, MAX};

  static void run() {
    side();
    pond();
    person();
    tell();
    isFor();
    put();
    personOf();
    isPond();
    open();
    shore();
  }

  private static void side() {
    promise(9, "SIDE is n: what it was. BAD: also less than it is.");
    int[][] ways = {{5, 6, 7}, {5, 7}, {6, 7}, {7, 7, 7}, {6, 6, 6}, {5, 5, 5}};
    for (int[] way : ways) {
      LeftIsAgreedOn x = fresh();
      int is = 5, bad = 0;
      for (int n : way) {
        due(x.side(n), is);
        is = n;
        for (int less : new int[] {MIN, -1, 0, 3, is - 1, 8, MAX}) due(x.side(less), BAD);
        bad += 7;
        due(x.status(1), is);
        due(x.status(12), bad);
      }
    }
    // what there is stays, and the end is farther on
    LeftIsAgreedOn x = on("pond 44;person 0 0 4 1", "0oooooo");
    due(x.side(7), 5);
    due(x.isPond(44) * 10 + x.isPond(45), 10);
    due(x.comes(0, 6, 0, 0), 6);
    due(x.personOf(0, 2), 4);
    refused(Boundary::some, y -> y.side(4), BAD);
    refused(Boundary::some, y -> y.side(8), BAD);
  }

  private static void pond() {
    promise(10, "A CELL is a POND, or isn't: whether it was (1, 0). BAD; STUCK: a POND where somebody is.");
    for (int cell : NO_CELLS) {
      refused(Boundary::some, x -> x.pond(cell, true), BAD);
      refused(Boundary::some, x -> x.pond(cell, false), BAD);
    }
    for (int cell : new int[] {22, 11, 12}) {
      refused(Boundary::some, x -> x.pond(cell, true), STUCK);
      asks(Boundary::some, x -> x.pond(cell, false), 0);
    }
    asks(Boundary::some, x -> x.pond(13, true), 1);
    for (int n = 5; n <= 7; n++) {
      for (int cell : new int[] {0, n - 1, 10 * (n - 1), 11 * (n - 1)}) {
        LeftIsAgreedOn x = fresh();
        x.side(n);
        due(x.pond(cell, false), 0);
        due(x.pond(cell, true), 0);
        due(x.pond(cell, true), 1);
        due(x.status(5), 1);
        due(x.pond(cell, false), 1);
        due(x.pond(cell, false), 0);
        due(x.status(5), 0);
      }
    }
    // where the last of eight is; where one was; where one comes by a telling but isn't
    LeftIsAgreedOn x = full();
    x.put(7, 0, 0);
    due(x.pond(0, true), STUCK);
    x.put(7, 1, 0);
    due(x.pond(0, true), 0);
    due(x.pond(21, true), 0);
    due(x.pond(22, true), STUCK);
  }

  private static void person() {
    promise(11, "One of the PEOPLE: the number. BAD; STUCK: a POND; FULL.");
    for (int bad : new int[] {MIN, -1, 10, 100, MAX}) {
      for (Maker maker : new Maker[] {Boundary::some, Boundary::full}) {
        refused(maker, x -> x.person(bad, 0, 0, 0), BAD);
        refused(maker, x -> x.person(0, bad, 0, 0), BAD);
        refused(maker, x -> x.person(0, 0, 0, bad), BAD);
        refused(maker, x -> x.person(0, bad, 44, 0), BAD);
      }
    }
    for (int cell : NO_CELLS) {
      refused(Boundary::some, x -> x.person(0, 0, cell, 0), BAD);
      refused(Boundary::full, x -> x.person(0, 0, cell, 0), BAD);
    }
    refused(Boundary::some, x -> x.person(6, 0, 44, 0), BAD);
    refused(Boundary::some, x -> x.person(0, 0, 44, 4), BAD);
    refused(Boundary::some, x -> x.person(5, 9, 44, 3), STUCK);
    refused(Boundary::full, x -> x.person(5, 9, 44, 3), STUCK);
    refused(Boundary::full, x -> x.person(5, 9, 0, 3), FULL);
    refused(Boundary::full, x -> x.person(0, 0, 22, 0), FULL);
    LeftIsAgreedOn x = some();
    for (int number = 3; number < 8; number++) {
      // where somebody is, there may be more
      due(x.person(5, 9, 22, 3), number);
      due(x.personOf(number, 0) * 1000 + x.personOf(number, 1) * 100 + x.personOf(number, 2), 5922);
      due(x.personOf(number, 3) * 10 + x.personOf(number, 4), 30);
    }
    due(x.person(0, 0, 0, 0), FULL);
    due(x.status(0), 8);
    for (int n = 5; n <= 7; n++) {
      x = fresh();
      x.side(n);
      due(x.person(0, 0, 11 * (n - 1), 0), 0);
      due(x.person(0, 0, n - 1, 0), 1);
      due(x.person(0, 0, n, 0), BAD);
      due(x.person(0, 0, 10 * n, 0), BAD);
      due(x.person(0, 0, 10 * n - 10, 0), 2);
    }
  }

  private static void tell() {
    promise(12, "LEFT (what 0), OLD (1), DOUBT (2) becomes v: what it was. BAD.");
    for (int what : new int[] {MIN, -1, 3, 4, MAX}) {
      refused(Boundary::some, x -> x.tell(what, 0), BAD);
      refused(Boundary::some, x -> x.tell(what, 1), BAD);
    }
    int[] most = {1, 1, 12};
    for (int what = 0; what < 3; what++) {
      int w = what;
      for (int v : new int[] {MIN, -1, most[w] + 1, MAX}) refused(Boundary::some, x -> x.tell(w, v), BAD);
      LeftIsAgreedOn x = fresh();
      due(x.tell(w, most[w]), w == 2 ? 3 : 0);
      due(x.tell(w, most[w]), most[w]);
      due(x.tell(w, 0), most[w]);
      due(x.tell(w, 0), 0);
      for (int other = 0; other < 3; other++) due(x.status(2 + other), other == 2 && w != 2 ? 3 : 0);
    }
  }

  private static void isFor() {
    promise(13, "One is FOR v: what he was FOR. BAD.");
    for (int person : NO_PEOPLE) {
      refused(Boundary::some, x -> x.isFor(person, 0), BAD);
      refused(Boundary::some, x -> x.isFor(person, 1), BAD);
    }
    for (int v : new int[] {MIN, -1, 2, MAX}) refused(Boundary::some, x -> x.isFor(2, v), BAD);
    refused(Boundary::fresh, x -> x.isFor(0, 0), BAD);
    refused(Boundary::full, x -> x.isFor(8, 0), BAD);
    LeftIsAgreedOn x = full();
    for (int person = 0; person < 8; person++) {
      due(x.isFor(person, 1), 0);
      due(x.isFor(person, 1), 1);
      due(x.personOf(person, 4), 1);
    }
    due(x.bloc(1), 36);
    due(x.isFor(7, 0), 1);
    due(x.bloc(1), 28);
  }

  private static void put() {
    promise(14, "One is put to a CELL and FACES so: the CELL he was in. BAD; STUCK: a POND.");
    for (int person : NO_PEOPLE) {
      refused(Boundary::some, x -> x.put(person, 0, 0), BAD);
      refused(Boundary::some, x -> x.put(person, 44, 0), BAD);
    }
    for (int cell : NO_CELLS) refused(Boundary::some, x -> x.put(0, cell, 0), BAD);
    for (int faces : NO_FACES) {
      refused(Boundary::some, x -> x.put(0, 0, faces), BAD);
      refused(Boundary::some, x -> x.put(0, 44, faces), BAD);
    }
    refused(Boundary::some, x -> x.put(0, 44, 0), STUCK);
    refused(Boundary::some, x -> x.put(2, 13, 3), STUCK);
    LeftIsAgreedOn x = some();
    int was = 22;
    for (int cell : new int[] {0, 4, 40, 43, 11, 11}) {
      due(x.put(0, cell, cell % 4), was);
      due(x.personOf(0, 2), cell);
      due(x.personOf(0, 3), cell % 4);
      was = cell;
    }
    due(x.personOf(1, 2) * 100 + x.personOf(2, 2), 1112);
  }

  private static void personOf() {
    promise(18, "Of one of the PEOPLE: KIND (0), a (1), CELL (2), FACES (3), FOR (4), POWER (5). BAD.");
    for (int person : NO_PEOPLE) for (int what = 0; what < 6; what++) {
      int w = what;
      refused(Boundary::some, x -> x.personOf(person, w), BAD);
    }
    for (int what : new int[] {MIN, -1, 6, 7, MAX}) refused(Boundary::some, x -> x.personOf(0, what), BAD);
    refused(Boundary::fresh, x -> x.personOf(0, 0), BAD);
    refused(Boundary::full, x -> x.personOf(8, 5), BAD);
    LeftIsAgreedOn x = full();
    due(x.personOf(7, 0) * 10000 + x.personOf(7, 1) * 1000 + x.personOf(7, 2) * 10 + x.personOf(7, 3), 18223);
    due(x.personOf(0, 0) * 10000 + x.personOf(0, 1) * 1000 + x.personOf(0, 2) * 10 + x.personOf(0, 3), 1220);
    // weights 1 to 8, 36 together
    for (int person = 0; person < 8; person++) {
      int want = 0;
      for (int set = 0; set < 256; set++) {
        int weight = 0;
        for (int other = 0; other < 8; other++) if (other != person && (set >> other & 1) == 1) weight += other + 1;
        if ((set >> person & 1) == 0 && weight <= 18 && weight + person + 1 > 18) want++;
      }
      due(x.personOf(person, 5), want);
    }
  }

  private static void isPond() {
    promise(19, "Whether a CELL is a POND: 1, 0. BAD.");
    for (int cell : NO_CELLS) refused(Boundary::some, x -> x.isPond(cell), BAD);
    asks(Boundary::some, x -> x.isPond(44), 1);
    asks(Boundary::some, x -> x.isPond(13), 1);
    asks(Boundary::some, x -> x.isPond(12), 0);
    asks(Boundary::some, x -> x.isPond(0), 0);
    // CELLS that come with a larger SIDE are none at first
    LeftIsAgreedOn x = fresh();
    x.pond(44, true);
    x.side(7);
    for (int cell = 0; cell < 70; cell++) if (cell % 10 < 7) due(x.isPond(cell), cell == 44 ? 1 : 0);
  }

  private static void open() {
    promise(36, "How many CELLS there are ahead of a CELL, FACING so, before a POND or the end of the island. BAD.");
    for (int cell : NO_CELLS) refused(Boundary::some, x -> x.open(cell, 0), BAD);
    for (int faces : NO_FACES) refused(Boundary::some, x -> x.open(0, faces), BAD);
    for (int n = 5; n <= 7; n++) {
      LeftIsAgreedOn x = fresh();
      x.side(n);
      for (int at = 0; at < n; at++) {
        due(x.open(10 * at + 1, 0), at);
        due(x.open(10 * at + 1, 2), n - 1 - at);
        due(x.open(10 + at, 3), at);
        due(x.open(10 + at, 1), n - 1 - at);
      }
    }
    LeftIsAgreedOn x = on("pond 22;pond 0;pond 4");
    due(x.open(2, 2), 1);
    due(x.open(12, 2), 0);
    due(x.open(42, 0), 1);
    due(x.open(24, 3), 1);
    due(x.open(20, 1), 1);
    // from a POND; between two; who stands there doesn't matter
    due(x.open(22, 0), 2);
    due(x.open(22, 1), 2);
    due(x.open(0, 1), 3);
    due(x.open(4, 3), 3);
    x.person(0, 0, 2, 0);
    due(x.open(0, 1), 3);
    x.pond(1, true);
    due(x.open(0, 1), 0);
  }

  private static void shore() {
    promise(37, "How many CELLS (no POND) have a POND beside them.");
    due(fresh().shore(), 0);
    int[][] ponds = {{0}, {1}, {10}, {34}, {43}, {4}, {44}, {40}, {2}, {22}, {22, 23}, {22, 24}, {22, 11}, {0, 4}, {0, 1, 10, 11}, {11, 13, 31, 33}};
    int[] shores = {2, 3, 3, 3, 3, 2, 2, 2, 3, 4, 6, 6, 6, 4, 4, 12};
    for (int k = 0; k < ponds.length; k++) {
      LeftIsAgreedOn x = fresh();
      for (int cell : ponds[k]) x.pond(cell, true);
      due(x.shore(), shores[k]);
    }
    // all but one; all; none any more; the ends
    LeftIsAgreedOn x = fresh();
    for (int cell = 0; cell < 50; cell++) if (cell % 10 < 5 && cell != 22) x.pond(cell, true);
    due(x.shore(), 1);
    x.pond(22, true);
    due(x.shore(), 0);
    for (int cell = 0; cell < 50; cell++) if (cell % 10 < 5) x.pond(cell, false);
    due(x.shore(), 0);
    x.side(7);
    x.pond(66, true);
    due(x.shore(), 2);
    x.pond(6, true);
    due(x.shore(), 4);
  }
}
