// The boundary cases of promises 1 to 8.
final class ShelfBoundaries extends Boundary {
  private static final int[] NO_SHELVES = {MIN, -10, -2, -1, 8, 9, 10, 40, MAX};

  static void run() {
    fromNew();
    row();
    set();
    copy();
    copyRefusals();
    element();
    holds();
    show();
    says();
  }

  private static void fromNew() {
    promise(1, "SIDE 5, no PONDS, no PEOPLE; SHELVES hold NOTHING; THE TAPE is empty.");
    LeftIsAgreedOn other = full();
    other.side(7);
    other.tell(0, 1);
    other.image();
    // nothing of another object is seen in it
    LeftIsAgreedOn x = fresh();
    int[] first = {0, 5, 0, 0, 3, 0, 0, 0, 0, 1, 0, NONE, 0, 0, 0, 0, 0};
    for (int what = 0; what < first.length; what++) due(x.status(what), first[what]);
    for (int s = 0; s < 8; s++) {
      due(x.holds(s), NONE);
      due(x.element(s, 0), 0);
    }
    for (int cell = 0; cell < 50; cell++) if (cell % 10 < 5) due(x.isPond(cell), 0);
    due(x.isPond(5), BAD);
    due(x.isPond(50), BAD);
    due(x.personOf(0, 0), BAD);
    due(x.mightiest(), STUCK);
    due(x.shore(), 0);
    due(x.wipe(), 0);
    due(x.island(), -20);
    due(x.back(), STUCK);
  }

  private static void row() {
    promise(2, "SHELF s holds a new ROW: 1. BAD.");
    for (int s : NO_SHELVES) refused(Boundary::some, x -> x.row(s, 0, 1), BAD);
    for (int sort : new int[] {MIN, -1, 5, 6, 10, MAX}) refused(Boundary::some, x -> x.row(2, sort, 1), BAD);
    for (int n : new int[] {MIN, -1, 41, 42, MAX}) refused(Boundary::some, x -> x.row(2, 0, n), BAD);
    for (int sort = 0; sort <= 4; sort++) {
      for (int n : new int[] {0, 1, 39, 40}) {
        LeftIsAgreedOn x = some();
        // over nothing, a row, one of the people
        for (int s : new int[] {0, 2, 1, 7}) {
          due(x.row(s, sort, n), 1);
          due(x.holds(s), sort);
          for (int i = 0; i < 40; i++) due(x.element(s, i), 0);
          due(x.set(s, n - 1, 1), n == 0 ? BAD : 1);
          due(x.set(s, n, 1), BAD);
        }
        due(x.element(4, 1), 1L << 40);
      }
    }
  }

  private static void set() {
    promise(3, "Element i of the ROW in SHELF s becomes v: 1. BAD SHELF; OTHER; NOTHING; BAD i.");
    for (int s : NO_SHELVES) refused(Boundary::some, x -> x.set(s, 0, 1), BAD);
    for (int i : new int[] {MIN, -1, 0, 1, 40, MAX}) {
      refused(Boundary::some, x -> x.set(1, i, 1), OTHER);
      refused(Boundary::some, x -> x.set(6, i, 1), OTHER);
      refused(Boundary::some, x -> x.set(0, i, 1), NOTHING);
      refused(Boundary::some, x -> x.set(5, i, 1), NOTHING);
      refused(Boundary::some, x -> x.set(3, i, 1), BAD);
    }
    for (int i : new int[] {MIN, -1, 3, 4, MAX}) refused(Boundary::some, x -> x.set(2, i, 1), BAD);
    for (int i : new int[] {-1, 40, 41}) refused(Boundary::some, x -> x.set(7, i, 1), BAD);
    LeftIsAgreedOn x = some();
    due(x.set(2, 0, 2), 1);
    due(x.set(2, 2, 3), 1);
    due(x.element(2, 0) * 100 + x.element(2, 1) * 10 + x.element(2, 2), 213);
    due(x.set(7, 39, 9), 1);
    due(x.element(7, 39) * 10 + x.element(7, 38), 90);
  }

  private static LeftIsAgreedOn counted() {
    LeftIsAgreedOn x = some();
    x.row(0, 2, 5);
    for (int i = 0; i < 5; i++) x.set(0, i, i + 1);
    return x;
  }

  private static long told(LeftIsAgreedOn x, int s) {
    long told = 0;
    for (int i = 0; i < 5; i++) told = 10 * told + x.element(s, i);
    return told;
  }

  private static void copied(int i, int j, int n, long want) {
    LeftIsAgreedOn x = counted();
    due(x.copy(0, 0, i, j, n), n);
    due(told(x, 0), want);
    x = counted();
    x.row(5, 2, 5);
    due(x.copy(0, 5, i, j, n), n);
    due(told(x, 0), 12345);
    long[] row = new long[5];
    for (int k = 0; k < n; k++) row[j + k] = i + k + 1;
    for (int k = 0; k < 5; k++) due(x.element(5, k), row[k]);
  }

  private static void copy() {
    promise(4, "n elements of the ROW in SHELF p from place i on come to places j on of that in q (as they were): n.");
    copied(0, 0, 5, 12345);
    copied(0, 1, 4, 11234);
    copied(1, 0, 4, 23455);
    copied(0, 4, 1, 12341);
    copied(4, 0, 1, 52345);
    copied(0, 2, 3, 12123);
    copied(2, 0, 3, 34545);
    copied(0, 0, 0, 12345);
    copied(5, 5, 0, 12345);
    copied(5, 0, 0, 12345);
    copied(0, 5, 0, 12345);
    // none of none
    LeftIsAgreedOn x = some();
    due(x.copy(3, 3, 0, 0, 0), 0);
    due(x.copy(3, 4, 0, 2, 0), 0);
    due(x.copy(4, 3, 2, 0, 0), 0);
    // all of forty
    x.row(0, 2, 40);
    due(x.copy(7, 0, 0, 0, 40), 40);
    due(x.element(0, 39) * 10 + x.element(0, 38), 10);
    // the sort of the other is the same, so nothing is lost: a long
    x.row(5, 3, 1);
    due(x.copy(4, 5, 1, 0, 1), 1);
    due(x.element(5, 0), 1L << 40);
  }

  private static void copyRefusals() {
    promise(4, "BAD SHELVES; OTHER (also ROWS of two SORTS, if both hold something); NOTHING; BAD the others.");
    for (int s : NO_SHELVES) {
      // 1 one of the people, 0 nothing, 2 a row
      for (int t : new int[] {0, 1, 2}) {
        refused(Boundary::some, x -> x.copy(s, t, 0, 0, 1), BAD);
        refused(Boundary::some, x -> x.copy(t, s, 0, 0, 1), BAD);
      }
      refused(Boundary::some, x -> x.copy(s, s, 0, 0, 1), BAD);
    }
    for (int n : new int[] {MIN, -1, 0, 1, 41}) {
      for (int s : new int[] {0, 1, 2, 3, 6}) {
        refused(Boundary::some, x -> x.copy(1, s, 0, 0, n), OTHER);
        refused(Boundary::some, x -> x.copy(s, 1, 0, 0, n), OTHER);
      }
      refused(Boundary::some, x -> x.copy(2, 3, 0, 0, n), OTHER);
      refused(Boundary::some, x -> x.copy(3, 2, 0, 0, n), OTHER);
      refused(Boundary::some, x -> x.copy(7, 4, 0, 0, n), OTHER);
      for (int s : new int[] {0, 2, 3, 4, 5, 7}) {
        refused(Boundary::some, x -> x.copy(0, s, 0, 0, n), NOTHING);
        refused(Boundary::some, x -> x.copy(s, 0, 0, 0, n), NOTHING);
      }
    }
    int[][] bad = {{0, 0, -1}, {0, 0, 6}, {0, 0, MIN}, {0, 0, MAX}, {-1, 0, 0}, {-1, 0, 1}, {0, -1, 0}, {0, -1, 1},
        {6, 0, 0}, {0, 6, 0}, {5, 0, 1}, {0, 5, 1}, {1, 0, 5}, {0, 1, 5}, {4, 0, 2}, {0, 4, 2}, {MIN, 0, 1}, {MAX, 0, 1},
        {MAX, 0, 0}, {0, MAX, 1}, {0, MIN, 1}, {1, 0, MAX}, {0, 1, MAX}, {MAX, MAX, MAX}, {2, 0, MAX - 1}, {-1, -1, 2}};
    for (int[] b : bad) refused(ShelfBoundaries::counted, x -> x.copy(0, 0, b[0], b[1], b[2]), BAD);
    // 0 has five elements, 7 forty
    int[][] longer = {{0, 36, 5}, {0, 40, 1}, {0, 41, 0}, {1, 0, 5}, {5, 0, 1}, {6, 0, 0}, {0, 0, 6}, {0, 0, 40}};
    for (int[] b : longer) {
      refused(ShelfBoundaries::counted, x -> x.copy(0, 7, b[0], b[1], b[2]), BAD);
      refused(ShelfBoundaries::counted, x -> x.copy(7, 0, b[1], b[0], b[2]), BAD);
    }
    LeftIsAgreedOn fits = counted();
    due(fits.copy(0, 7, 0, 35, 5), 5);
    due(fits.copy(0, 7, 5, 40, 0), 0);
    due(fits.copy(7, 0, 35, 0, 5), 5);
    refused(Boundary::some, x -> x.copy(3, 4, 0, 0, 1), BAD);
    refused(Boundary::some, x -> x.copy(4, 3, 0, 0, 1), BAD);
    refused(Boundary::some, x -> x.copy(7, 7, 1, 0, 40), BAD);
    refused(Boundary::some, x -> x.copy(7, 7, 0, 0, 41), BAD);
  }

  private static void element() {
    promise(5, "Element i of the ROW; 0: none, no ROW (nothing is refused).");
    for (int s : NO_SHELVES) asks(Boundary::some, x -> x.element(s, 0), 0);
    for (int i : new int[] {MIN, -1, 0, 1, 39, 40, MAX}) {
      asks(Boundary::some, x -> x.element(0, i), 0);
      asks(Boundary::some, x -> x.element(1, i), 0);
      asks(Boundary::some, x -> x.element(3, i), 0);
    }
    for (int i : new int[] {MIN, -1, 2, 3, 40, MAX}) asks(Boundary::some, x -> x.element(4, i), 0);
    asks(Boundary::some, x -> x.element(4, 1), 1L << 40);
    asks(Boundary::some, x -> x.element(2, 1), 1);
    asks(Boundary::some, x -> x.element(2, 2), -1);
    asks(Boundary::some, x -> x.element(7, 39), 1);
    // one shelf's end isn't the next one's begin
    LeftIsAgreedOn x = some();
    x.row(0, 3, 40);
    x.row(1, 3, 40);
    x.set(1, 0, 9);
    x.set(0, 39, 8);
    due(x.element(0, 40), 0);
    due(x.element(1, -1), 0);
    due(x.element(0, 39) * 10 + x.element(1, 0), 89);
  }

  private static void holds() {
    promise(6, "What SHELF s holds: NONE NOTHING, no SHELF; 0 to 4 a ROW by its SORT; 10 and the number of one of the PEOPLE.");
    for (int s : NO_SHELVES) asks(Boundary::some, x -> x.holds(s), NONE);
    int[] held = {NONE, 11, 0, 3, 3, NONE, 12, 2};
    for (int s = 0; s < 8; s++) {
      int shelf = s;
      asks(Boundary::some, x -> x.holds(shelf), held[shelf]);
    }
    LeftIsAgreedOn x = full();
    for (int s = 0; s < 7; s++) due(x.holds(s), s % 5);
    due(x.holds(7), NONE);
    for (int person = 0; person < 8; person++) {
      x.show(person, person);
      due(x.holds(person), 10 + person);
    }
  }

  private static void show() {
    promise(7, "SHELF s holds one of the PEOPLE, or NOTHING (person NONE): 1. BAD.");
    for (int s : NO_SHELVES) {
      refused(Boundary::some, x -> x.show(s, 0), BAD);
      refused(Boundary::some, x -> x.show(s, NONE), BAD);
      refused(Boundary::some, x -> x.show(s, 3), BAD);
    }
    for (int person : new int[] {MIN, -3, -2, 3, 4, 7, 8, 10, MAX}) {
      refused(Boundary::some, x -> x.show(2, person), BAD);
      refused(Boundary::some, x -> x.show(0, person), BAD);
    }
    for (int person : new int[] {-2, 8, 9}) refused(Boundary::full, x -> x.show(0, person), BAD);
    refused(Boundary::fresh, x -> x.show(0, 0), BAD);
    asks(Boundary::fresh, x -> x.show(0, NONE), 1);
    LeftIsAgreedOn x = some();
    for (int s = 0; s < 8; s++) {
      due(x.show(s, 0), 1);
      due(x.holds(s), 10);
      due(x.show(s, 2), 1);
      due(x.holds(s), 12);
      due(x.element(s, 0), 0);
    }
    due(x.status(10), 8);
    for (int s = 0; s < 8; s++) {
      due(x.show(s, NONE), 1);
      due(x.holds(s), NONE);
      due(x.show(s, NONE), 1);
      due(x.status(10), 7 - s);
      due(x.set(s, 0, 0), NOTHING);
    }
  }

  private static void says() {
    promise(8, "What the one in SHELF s, taken for one of a KIND, says: VOTER his a; OLDEN, STUBBORN, DOUBTER, FORDER, "
        + "DANCER what he would FACE behind one left where he is, by his own KIND. BAD SHELF, KIND; "
        + "OTHER (also if he is of no such KIND nor of one under it); NOTHING.");
    for (int s : NO_SHELVES) refused(Boundary::some, x -> x.says(s, 0), BAD);
    for (int kind : new int[] {MIN, -1, 6, 7, MAX}) {
      refused(Boundary::some, x -> x.says(1, kind), BAD);
      refused(Boundary::some, x -> x.says(2, kind), BAD);
      refused(Boundary::some, x -> x.says(0, kind), BAD);
    }
    for (int kind = 0; kind < 6; kind++) {
      int k = kind;
      refused(Boundary::some, x -> x.says(0, k), NOTHING);
      refused(Boundary::some, x -> x.says(2, k), OTHER);
      refused(Boundary::some, x -> x.says(3, k), OTHER);
      // 1 holds an OLDEN, 6 a FORDER
      if (kind > 1) refused(Boundary::some, x -> x.says(1, k), OTHER);
      if (kind % 2 == 1) refused(Boundary::some, x -> x.says(6, k), OTHER);
    }
    asks(Boundary::some, x -> x.says(1, 0), 2);
    asks(Boundary::some, x -> x.says(6, 0), 4);
    // OLD 0: against the clock from 1; at 12, beside the pond at 13, the other one than LEFT
    asks(Boundary::some, x -> x.says(1, 1), 0);
    LeftIsAgreedOn x = some();
    int behind = x.status(2) == 1 ? 0 : 2;
    due(x.says(6, 2), behind);
    due(x.says(6, 4), behind);
    x.tell(0, 1 - x.status(2));
    due(x.says(6, 2), 2 - behind);
    // FACES wrap around
    for (int faces = 0; faces < 4; faces++) {
      x.put(1, 0, faces);
      x.tell(1, 0);
      due(x.says(1, 1), (faces + 3) % 4);
      x.tell(1, 1);
      due(x.says(1, 1), (faces + 1) % 4);
    }
    x = on("person 5 0 0 0;person 3 9 0 3;is 1 1;left 1");
    x.show(0, 0);
    x.show(7, 1);
    due(x.says(0, 0) * 10 + x.says(0, 5), 1);
    due(x.says(7, 0) * 100 + x.says(7, 1) * 10 + x.says(7, 3), 900);
    due(x.says(7, 4), OTHER);
    due(x.says(0, 3), OTHER);
  }
}
