// The boundary cases of promises 44 to 46.
final class MeetBoundaries extends Boundary {
  static void run() {
    meet();
    waits();
    judge();
  }

  interface Meeting { long by(LeftIsAgreedOn x, int s, int n, int person, int t, int m, int other); }

  // 0, 5 nothing; 1, 6 people; 2 an end that is no SIGN; 3 a row of none; 7 forty SIGNS
  private static void refusals(Meeting call) {
    for (int s : new int[] {MIN, -1, 8, MAX}) {
      for (int t : new int[] {0, 1, 2, 3, 7}) {
        refused(Boundary::some, x -> call.by(x, s, 0, 0, t, 0, 1), BAD);
        refused(Boundary::some, x -> call.by(x, t, 0, 0, s, 0, 1), BAD);
      }
    }
    for (int n : new int[] {MIN, -1, 41, MAX}) {
      for (int t : new int[] {0, 1, 2, 3, 7}) {
        refused(Boundary::some, x -> call.by(x, t, n, 0, 7, 0, 1), BAD);
        refused(Boundary::some, x -> call.by(x, 7, 0, 0, t, n, 1), BAD);
      }
    }
    for (int person : new int[] {MIN, -1, 3, 8, MAX}) {
      for (int t : new int[] {0, 1, 2, 3, 7}) {
        refused(Boundary::some, x -> call.by(x, t, 0, person, 7, 0, 1), BAD);
        refused(Boundary::some, x -> call.by(x, 7, 0, 1, t, 40, person), BAD);
      }
    }
    for (int same = 0; same < 3; same++) {
      int one = same;
      for (int t : new int[] {0, 1, 2, 7}) refused(Boundary::some, x -> call.by(x, t, 0, one, 7, 0, one), BAD);
    }
    for (int one : new int[] {1, 6}) {
      for (int t : new int[] {0, 1, 2, 3, 5, 6, 7}) {
        refused(Boundary::some, x -> call.by(x, one, 40, 0, t, 3, 1), OTHER);
        refused(Boundary::some, x -> call.by(x, t, 3, 0, one, 40, 1), OTHER);
      }
    }
    for (int none : new int[] {0, 5}) {
      for (int t : new int[] {0, 2, 3, 5, 7}) {
        refused(Boundary::some, x -> call.by(x, none, 40, 0, t, 4, 1), NOTHING);
        refused(Boundary::some, x -> call.by(x, t, 4, 0, none, 40, 1), NOTHING);
      }
    }
    // fewer elements, though the other has no SIGN
    refused(Boundary::some, x -> call.by(x, 2, 4, 0, 7, 0, 1), BAD);
    refused(Boundary::some, x -> call.by(x, 7, 0, 0, 2, 4, 1), BAD);
    refused(Boundary::some, x -> call.by(x, 3, 1, 0, 2, 3, 1), BAD);
    refused(Boundary::some, x -> call.by(x, 2, 3, 0, 3, 1, 1), BAD);
    refused(Boundary::some, x -> call.by(x, 2, 3, 0, 2, 4, 1), BAD);
    refused(Boundary::some, x -> call.by(x, 2, 3, 0, 7, 0, 1), STUCK);
    refused(Boundary::some, x -> call.by(x, 7, 40, 0, 2, 3, 1), STUCK);
    refused(Boundary::some, x -> call.by(x, 2, 3, 0, 2, 2, 1), STUCK);
    Maker ahead = () -> { LeftIsAgreedOn x = some(); x.put(1, 22, 0); return x; };
    // though they are in one CELL ahead of all
    refused(ahead, x -> call.by(x, 2, 3, 0, 2, 0, 1), STUCK);
    refused(ahead, x -> call.by(x, 2, 0, 0, 2, 3, 1), STUCK);
    // just taken
    due(call.by(some(), 7, 40, 0, 7, 40, 1) >= NONE ? 1 : 0, 1);
    due(call.by(some(), 2, 2, 0, 2, 2, 1) >= NONE ? 1 : 0, 1);
    due(call.by(some(), 3, 0, 2, 3, 0, 0) >= NONE ? 1 : 0, 1);
  }

  private static void meet() {
    promise(44, "MEET of two (unlike) by the first n elements (0 to 40) of the ROW in SHELF s, and the first m (0 to 40) of that "
        + "in SHELF t; NONE. BAD SHELVES, n, m, PEOPLE (also the same); OTHER (either); NOTHING (either); BAD: fewer "
        + "elements; STUCK: an element that is no SIGN. (NONE isn't refused.)");
    refusals((x, s, n, person, t, m, other) -> x.meet(s, n, person, t, m, other));
    asks(Boundary::some, x -> x.meet(7, 0, 0, 7, 0, 1), NONE);
    asks(Boundary::some, x -> x.meet(3, 0, 0, 3, 0, 1), NONE);
    // 22 up, 11 right: both in 12 behind one on
    asks(Boundary::some, x -> x.meet(7, 40, 0, 7, 40, 1), 1);
    asks(Boundary::some, x -> x.meet(7, 1, 1, 7, 1, 0), 1);
    asks(Boundary::some, x -> x.meet(7, 1, 0, 3, 0, 1), NONE);
    // one alone goes on when the other's TELLING is done
    asks(Boundary::some, x -> x.meet(7, 1, 0, 3, 0, 2), 1);
    asks(Boundary::some, x -> x.meet(3, 0, 2, 7, 1, 0), 1);
    // in one POND: 12 falls in with the first on, 11 with the second
    asks(Boundary::some, x -> x.meet(7, 2, 1, 7, 2, 2), 2);
    asks(Boundary::some, x -> x.meet(7, 1, 1, 7, 1, 2), NONE);
    // each by a kind of his own
    LeftIsAgreedOn x = on("left 1;person 0 0 21 0;person 1 0 23 0", "0lo", "1w");
    due(x.meet(0, 2, 0, 0, 2, 1), 2);
    x.tell(1, 1);
    due(x.meet(0, 2, 0, 0, 2, 1), NONE);
    // ahead of all, whatever is told then
    x.put(1, 21, 2);
    due(x.meet(0, 2, 0, 0, 2, 1), 0);
    due(x.meet(1, 0, 0, 1, 0, 1), 0);
    // past one another, aside
    x = on("person 3 0 21 1;person 3 0 32 3", "0o");
    due(x.meet(0, 1, 0, 0, 1, 1), NONE);
    x = on("person 3 0 21 1;person 3 0 22 3", "0o", "1w");
    due(x.meet(0, 1, 0, 0, 1, 1), 1);
    due(x.meet(0, 1, 0, 1, 1, 1), 1);
    due(x.meet(1, 1, 0, 1, 1, 1), NONE);
  }

  private static void waits() {
    promise(45, "WAIT, likewise; NONE.");
    refusals((x, s, n, person, t, m, other) -> x.waits(s, n, person, t, m, other));
    asks(Boundary::some, x -> x.waits(3, 0, 0, 3, 0, 1), 0);
    asks(Boundary::some, x -> x.waits(7, 40, 0, 7, 40, 1), 1);
    asks(() -> { LeftIsAgreedOn x = some(); x.put(1, 22, 0); return x; }, x -> x.waits(3, 0, 0, 3, 0, 1), NONE);
    // 9 waits do; 10 would be needed; it is the second one who waits
    LeftIsAgreedOn x = on("side 7;person 0 0 63 0;person 0 0 20 1", "1ooo", "2wwwwwwwooooo", "3wwwwwwwwooooo");
    due(x.waits(2, 12, 0, 1, 3, 1), 9);
    due(x.waits(3, 13, 0, 1, 3, 1), NONE);
    due(x.waits(1, 3, 1, 2, 12, 0), NONE);
    // two in a lane, each up to the other's place: never, and NONE isn't refused
    x = on("person 0 0 20 1;person 0 0 24 3", "0oooo");
    due(x.waits(0, 4, 0, 0, 4, 1), NONE);
    due(x.status(12) + x.status(15), 0);
    due(x.waits(0, 2, 0, 0, 1, 1), 0);
  }

  private static void judge() {
    promise(46, "WRONG of a told TELLING by the first n elements (0 to 40) of the ROW in SHELF s; NONE. BAD SHELF, n; OTHER; "
        + "NOTHING; BAD: fewer elements.");
    AskBoundaries.refusals((x, s, n) -> x.judge(s, n), false);
    asks(Boundary::some, x -> x.judge(2, 2), NONE);
    asks(Boundary::some, x -> x.judge(2, 3), 2);
    asks(Boundary::some, x -> x.judge(3, 0), NONE);
    asks(Boundary::some, x -> x.judge(7, 40), NONE);
    asks(Boundary::some, x -> x.judge(4, 1), NONE);
    asks(Boundary::some, x -> x.judge(4, 2), 1);
    asks(() -> { LeftIsAgreedOn x = some(); x.set(7, 39, 4); return x; }, x -> x.judge(7, 40), 39);
    asks(() -> { LeftIsAgreedOn x = some(); x.set(7, 0, -1); return x; }, x -> x.judge(7, 40), 0);
  }
}
