// The boundary cases that "THE ISLAND" names under Terms, but for the tape's.
final class TermsBoundaries extends Boundary {
  static void run() {
    sides();
    cells();
    years();
    people();
    kinds();
    weights();
    places();
    pledges();
    doubt();
  }

  private static void sides() {
    terms("SIDE n (3 to 7; 5 at first)");
    due(fresh().status(1), 5);
    for (int n : new int[] {MIN, -7, -1, 0, 2, 3, 4, 8, 9, 70, MAX}) refused(Boundary::fresh, x -> x.side(n), BAD);
    for (int n = 5; n <= 7; n++) {
      LeftIsAgreedOn x = fresh();
      due(x.side(n), 5);
      due(x.status(1), n);
    }
  }

  private static void cells() {
    terms("CELLS are 10 times the ROW and the COLUMN (0 to n less 1 each). A CELL may be a POND.");
    for (int n = 5; n <= 7; n++) {
      LeftIsAgreedOn x = fresh();
      x.side(n);
      LeftIsAgreedOn y = fresh();
      y.side(n);
      int ponds = 0;
      for (int cell = -12; cell <= 82; cell++) {
        boolean is = cell >= 0 && cell / 10 < n && cell % 10 < n;
        due(x.isPond(cell), is ? 0 : BAD);
        due(x.open(cell, 1), is ? n - 1 - cell % 10 : BAD);
        due(y.pond(cell, true), is ? 0 : BAD);
        due(y.isPond(cell), is ? 1 : BAD);
        if (is) ponds++;
      }
      // all are ponds: there is no room for anybody, and no shore
      due(y.status(5), ponds);
      due(ponds, n * n);
      due(y.shore(), 0);
      due(y.person(0, 0, 0, 0), STUCK);
      due(y.person(0, 0, 11 * (n - 1), 0), STUCK);
      for (int cell : new int[] {MIN, -10, 100, 1000, MAX}) due(x.isPond(cell), BAD);
    }
  }

  private static void years() {
    terms("LEFT (0, 1; 0 at first): what is agreed this year; OLD (0, 1; 0 at first): last year.");
    due(fresh().status(2), 0);
    due(fresh().status(3), 0);
    for (int what = 0; what < 2; what++) {
      int w = what;
      LeftIsAgreedOn x = fresh();
      due(x.tell(w, 1), 0);
      due(x.status(2 + w), 1);
      due(x.status(3 - w), 0);
      due(x.tell(w, 0), 1);
      due(x.status(2 + w), 0);
      for (int v : new int[] {MIN, -1, 2, 3, MAX}) refused(Boundary::some, y -> y.tell(w, v), BAD);
    }
  }

  private static void people() {
    terms("PEOPLE have numbers, 0 on, 8 at most");
    LeftIsAgreedOn x = fresh();
    for (int number = 0; number < 8; number++) {
      due(x.personOf(number, 0), BAD);
      due(x.person(0, 0, 0, 0), number);
      due(x.status(0), number + 1);
      due(x.personOf(number, 0), 0);
    }
    due(x.personOf(8, 0), BAD);
    due(x.person(0, 0, 0, 0), FULL);
    due(x.status(0), 8);
    due(x.personOf(8, 0), BAD);
    for (int number : new int[] {MIN, -1, 8, 9, MAX}) refused(Boundary::full, y -> y.personOf(number, 2), BAD);
    StringBuilder eight = new StringBuilder("person 0 0 0 0");
    for (int more = 1; more < 8; more++) eight.append(";person 0 0 0 0");
    due(on(eight.toString()).status(0), 8);
  }

  private static void kinds() {
    terms("each of a KIND: 0 VOTER; 1 OLDEN, 2 DOUBTER, 5 DANCER, each under VOTER; 3 STUBBORN, under OLDEN; "
        + "4 FORDER, under DOUBTER");
    int[][] takenFor = {{0}, {0, 1}, {0, 2}, {0, 1, 3}, {0, 2, 4}, {0, 5}};
    for (int kind = 0; kind < 6; kind++) {
      LeftIsAgreedOn x = fresh();
      due(x.person(kind, 7, 22, 0), 0);
      due(x.personOf(0, 0), kind);
      x.show(0, 0);
      for (int as = 0; as < 6; as++) {
        boolean is = false;
        for (int may : takenFor[kind]) is |= may == as;
        due(x.says(0, as), !is ? OTHER : as == 0 ? 7 : 3);
      }
    }
    for (int kind : new int[] {MIN, -1, 6, 7, MAX}) refused(Boundary::some, x -> x.person(kind, 0, 0, 0), BAD);
  }

  private static void weights() {
    terms("a (0 to 9: how much a vote weighs)");
    LeftIsAgreedOn x = fresh();
    due(x.person(0, 0, 0, 0), 0);
    due(x.bloc(0), 0);
    due(x.person(0, 9, 0, 0), 1);
    due(x.personOf(0, 1), 0);
    due(x.personOf(1, 1), 9);
    due(x.bloc(0), 9);
    for (int a : new int[] {MIN, -1, 10, 11, MAX}) refused(Boundary::some, y -> y.person(0, a, 0, 0), BAD);
  }

  private static void places() {
    terms("a CELL (no POND), FACES (0 up, 1 right, 2 down, 3 left)");
    refused(Boundary::some, x -> x.person(0, 0, 13, 0), STUCK);
    refused(Boundary::some, x -> x.person(0, 0, 44, 3), STUCK);
    for (int cell : new int[] {MIN, -1, 5, 45, 50, 54, 55, 100, MAX}) {
      refused(Boundary::some, x -> x.person(0, 0, cell, 0), BAD);
    }
    int[] ahead = {12, 23, 32, 21};
    for (int faces = 0; faces < 4; faces++) {
      LeftIsAgreedOn x = fresh();
      due(x.person(0, 0, 22, faces), 0);
      due(x.personOf(0, 3), faces);
      row(x, 0, "o");
      due(x.comes(0, 1, 0, 0), ahead[faces]);
    }
    for (int faces : new int[] {MIN, -1, 4, 5, MAX}) refused(Boundary::some, x -> x.person(0, 0, 0, faces), BAD);
  }

  private static void pledges() {
    terms("FOR (0, 1; 0 at first)");
    LeftIsAgreedOn x = fresh();
    x.person(3, 1, 0, 0);
    due(x.personOf(0, 4), 0);
    due(x.isFor(0, 1), 0);
    due(x.personOf(0, 4), 1);
    due(on("person 3 1 0 0").personOf(0, 4), 0);
    for (int v : new int[] {MIN, -1, 2, MAX}) refused(Boundary::some, y -> y.isFor(0, v), BAD);
    // one whose number somebody had who was FOR 1
    x = fresh();
    x.image();
    x.person(0, 1, 0, 0);
    x.isFor(0, 1);
    x.back();
    x.person(0, 1, 0, 0);
    due(x.personOf(0, 4), 0);
  }

  private static void doubt() {
    terms("DOUBT (0 to 12; 3 at first)");
    LeftIsAgreedOn x = fresh();
    due(x.status(4), 3);
    for (int v = 0, was = 3; v <= 12; was = v, v++) due(x.tell(2, v), was);
    due(x.status(4), 12);
    for (int v : new int[] {MIN, -1, 13, 14, MAX}) refused(Boundary::some, y -> y.tell(2, v), BAD);
    // 0: nobody ever; 12: all, each year
    x = on("person 0 1 0 0;person 0 9 0 0;doubt 0");
    x.years(60);
    due(x.personOf(0, 4) + x.personOf(1, 4), 0);
    x.tell(2, 12);
    for (int year = 1; year <= 60; year++) {
      x.years(1);
      due(x.personOf(0, 4) * 2 + x.personOf(1, 4), year % 2 * 3);
    }
  }
}
