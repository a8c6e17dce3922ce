// The boundary cases of promises 38 to 43.
final class VoteBoundaries extends Boundary {
  static void run() {
    bloc();
    swing();
    mightiest();
    agreed();
    carries();
    turn();
  }

  private static LeftIsAgreedOn eight(int weight) {
    LeftIsAgreedOn x = fresh();
    for (int person = 0; person < 8; person++) x.person(0, weight, 0, 0);
    return x;
  }

  private static void bloc() {
    promise(38, "How much those FOR v (0, 1) weigh together. BAD.");
    for (int v : new int[] {MIN, -1, 2, 3, MAX}) {
      refused(Boundary::some, x -> x.bloc(v), BAD);
      refused(Boundary::fresh, x -> x.bloc(v), BAD);
    }
    for (int v = 0; v < 2; v++) {
      int w = v;
      asks(Boundary::fresh, x -> x.bloc(w), 0);
      asks(() -> eight(0), x -> x.bloc(w), 0);
      asks(() -> eight(9), x -> x.bloc(w), w == 0 ? 72 : 0);
    }
    LeftIsAgreedOn x = eight(9);
    for (int person = 0; person < 8; person++) {
      x.isFor(person, 1);
      due(x.bloc(0), 63 - 9 * person);
      due(x.bloc(1), 9 + 9 * person);
    }
  }

  private static void swing() {
    promise(39, "Whether CARRIES is another, if one were FOR the other: 1, 0. BAD.");
    for (int person : new int[] {MIN, -1, 3, 4, 8, MAX}) refused(Boundary::some, x -> x.swing(person), BAD);
    refused(Boundary::fresh, x -> x.swing(0), BAD);
    refused(Boundary::full, x -> x.swing(8), BAD);
    // alone: he weighs something, or nothing
    for (int left = 0; left < 2; left++) {
      LeftIsAgreedOn x = on("person 0 1 0 0;left " + left);
      due(x.swing(0), 1);
      x.isFor(0, 1);
      due(x.swing(0), 1);
      x = on("person 0 0 0 0;left " + left);
      due(x.swing(0), 0);
      // to a draw, and from one, it is as LEFT is
      x = on("person 0 2 0 0;person 0 2 0 0;left " + left);
      due(x.swing(0), left);
      x.isFor(0, 1);
      due(x.swing(0), left);
      due(x.swing(1), 1 - left);
      x.isFor(1, 1);
      due(x.swing(0), 1 - left);
    }
    LeftIsAgreedOn x = eight(1);
    for (int person = 0; person < 3; person++) x.isFor(person, 1);
    for (int person = 0; person < 8; person++) due(x.swing(person), 0);
    x.tell(0, 1);
    for (int person = 0; person < 8; person++) due(x.swing(person), person < 3 ? 0 : 1);
  }

  private static void mightiest() {
    promise(40, "Who has the greatest POWER, of several the first. STUCK: no PEOPLE.");
    refused(Boundary::fresh, x -> x.mightiest(), STUCK);
    asks(() -> on("person 0 0 0 0"), x -> x.mightiest(), 0);
    asks(() -> eight(0), x -> x.mightiest(), 0);
    asks(() -> eight(9), x -> x.mightiest(), 0);
    asks(() -> on("person 0 0 0 0;person 0 1 0 0"), x -> x.mightiest(), 1);
    asks(() -> on("person 0 1 0 0;person 0 2 0 0;person 0 2 0 0;person 0 4 0 0"), x -> x.mightiest(), 3);
    asks(() -> on("person 0 0 0 0;person 0 2 0 0;person 0 2 0 0"), x -> x.mightiest(), 1);
    // he weighs more, but can do no more
    asks(() -> on("person 0 2 0 0;person 0 3 0 0;person 0 4 0 0"), x -> x.mightiest(), 0);
    asks(Boundary::full, x -> x.mightiest(), 7);
    // nobody is left
    LeftIsAgreedOn x = fresh();
    x.image();
    x.person(0, 5, 0, 0);
    due(x.mightiest(), 0);
    x.back();
    due(x.mightiest(), STUCK);
  }

  private static void agreed() {
    promise(41, "PEOPLE (bits) who go by what LEFT is at a first turn (a left) where they are.");
    asks(Boundary::fresh, x -> x.agreed(), 0);
    asks(Boundary::full, x -> x.agreed(), 255);
    String kinds = "person 0 0 22 0;person 1 0 22 0;person 2 0 22 0;person 3 0 22 0;person 4 0 22 0;person 5 0 22 0;"
        + "person 4 0 33 0;person 3 0 22 0;is 7 1;pond 34";
    for (int bits = 0; bits < 4; bits++) {
      int left = bits & 1, old = bits >> 1;
      LeftIsAgreedOn x = on(kinds + ";left " + left + ";old " + old);
      due(x.agreed(), 1 + (old == left ? 2 : 0) + 4 + (left == 0 ? 8 : 0) + 16 + 32 + (left == 1 ? 128 : 0));
    }
  }

  private static void carries() {
    promise(42, "CARRIES.");
    for (int left = 0; left < 2; left++) {
      int l = left;
      asks(() -> { LeftIsAgreedOn x = fresh(); x.tell(0, l); return x; }, x -> x.carries(), l);
      asks(() -> { LeftIsAgreedOn x = eight(0); x.tell(0, l); x.isFor(3, 1); return x; }, x -> x.carries(), l);
      asks(() -> { LeftIsAgreedOn x = eight(9); x.tell(0, l); return x; }, x -> x.carries(), 0);
      LeftIsAgreedOn x = eight(9);
      x.tell(0, left);
      for (int person = 0; person < 8; person++) {
        x.isFor(person, 1);
        due(x.carries(), person < 3 ? 0 : person > 3 ? 1 : left);
      }
    }
  }

  private static void turn() {
    promise(43, "TURN: how many (what 0; NONE), the set (1; NONE). BAD. (NONE isn't refused.)");
    for (int what : new int[] {MIN, -1, 2, 3, MAX}) {
      refused(Boundary::some, x -> x.turn(what), BAD);
      refused(Boundary::fresh, x -> x.turn(what), BAD);
    }
    for (int what = 0; what < 2; what++) {
      int w = what;
      asks(Boundary::fresh, x -> x.turn(w), NONE);
      asks(() -> eight(0), x -> x.turn(w), NONE);
      asks(() -> on("person 0 0 0 0"), x -> x.turn(w), NONE);
      asks(() -> on("person 0 1 0 0"), x -> x.turn(w), 1);
      asks(() -> eight(9), x -> x.turn(w), w == 0 ? 5 : 31);
    }
    // the last one alone; not those who are FOR it already
    LeftIsAgreedOn x = eight(0);
    x.isFor(0, 1);
    due(x.turn(0), NONE);
    x = on("person 0 1 0 0;person 0 1 0 0;person 0 1 0 0;person 0 1 0 0;person 0 1 0 0;person 0 1 0 0;person 0 1 0 0;person 0 9 0 0");
    due(x.turn(0), 1);
    due(x.turn(1), 128);
    x = eight(2);
    for (int person = 0; person < 4; person++) x.isFor(person, 1);
    due(x.carries(), 0);
    due(x.turn(0), 1);
    due(x.turn(1), 16);
    x.tell(0, 1);
    due(x.turn(0), 1);
    due(x.turn(1), 1);
  }
}
