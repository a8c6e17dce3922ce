// The boundary cases of promises 47 to 52, and of the number of calls.
final class TruthBoundaries extends Boundary {
  static void run() {
    walk();
    years();
    seed();
    image();
    back();
    status();
    calls();
  }

  private static void walk() {
    promise(47, "One walks in truth: the CELL. BAD SHELF, n, person; OTHER; NOTHING; BAD; STUCK likewise.");
    AskBoundaries.refusals((x, s, n) -> x.walk(s, n, 0), true);
    AskBoundaries.alsoBad((x, s, n, v) -> x.walk(s, n, v), MIN, -1, 3, 8, MAX);
    // none is told: nothing changes
    asks(Boundary::some, x -> x.walk(3, 0, 0), 22);
    asks(Boundary::some, x -> x.walk(7, 0, 2), 12);
    LeftIsAgreedOn x = some();
    int fallen = x.status(7);
    due(x.walk(7, 40, 0), 2);
    due(x.personOf(0, 2) * 10 + x.personOf(0, 3), 23);
    due(x.status(7), fallen);
    // into the pond at once; behind one on
    due(x.walk(7, 40, 2), 12);
    due(x.personOf(2, 2) * 10 + x.personOf(2, 3), 121);
    due(x.status(7), fallen + 1);
    due(x.walk(7, 40, 1), 12);
    due(x.personOf(1, 2) * 10 + x.personOf(1, 3), 121);
    due(x.status(7), fallen + 2);
    due(x.isPond(13), 1);
    // the last one of eight
    x = full();
    x.row(0, 0, 2);
    due(x.walk(0, 2, 7), 20);
    due(x.personOf(7, 2) + x.personOf(6, 2), 42);
  }

  private static void years() {
    promise(48, "YEARS (n 1 to 60): LEFT then. BAD.");
    for (int n : new int[] {MIN, -60, -1, 0, 61, 62, MAX}) {
      refused(Boundary::some, x -> x.years(n), BAD);
      refused(Boundary::fresh, x -> x.years(n), BAD);
    }
    LeftIsAgreedOn x = some(), twin = some();
    int ahead = x.status(6);
    x.years(1);
    due(x.status(6), ahead + 1);
    due(x.years(60), x.status(2));
    due(x.status(6), ahead + 61);
    // sixty at once are as sixty one by one
    twin.years(1);
    for (int year = 0; year < 60; year++) twin.years(1);
    unchanged(x, twin, 0);
    x = fresh();
    x.tell(1, 1);
    due(x.years(1), 0);
    due(x.status(3), 0);
    due(x.status(9), 1);
  }

  private static void seed() {
    promise(49, "SEED becomes v: the one ahead.");
    LeftIsAgreedOn x = fresh();
    int was = 1;
    for (int v : new int[] {0, MIN, MAX, -1, 1, 65536, -65536}) {
      due(x.seed(v), was);
      due(x.status(9), v);
      was = v;
    }
    // nobody draws: it stays
    x.years(60);
    due(x.status(9), -65536);
    // 0 draws 12345, whose upper bits are none
    x = on("person 0 0 0 0;doubt 1");
    x.seed(0);
    x.years(1);
    due(x.status(9), 12345);
    due(x.personOf(0, 4), 1);
  }

  private static void image() {
    promise(50, "All is kept, but THE TAPE, SHELVES and REFUSALS: 1.");
    // nothing is kept, of nobody
    LeftIsAgreedOn x = fresh();
    due(x.image(), 1);
    feed(x, "side 7;pond 66;person 0 1 65 0;left 1;old 1;doubt 0");
    due(x.island(), 6);
    due(x.years(60), 0);
    x.seed(9);
    due(x.back(), 1);
    alike(x, fresh().image() == 1 ? imaged() : x);
    // all of a full house
    x = full();
    x.isFor(7, 1);
    x.years(3);
    x.walk(0, 0, 0);
    LeftIsAgreedOn twin = full();
    twin.isFor(7, 1);
    twin.years(3);
    twin.image();
    due(x.image(), 1);
    for (int person = 0; person < 8; person++) x.put(person, 0, 3);
    for (int person = 0; person < 8; person++) x.isFor(person, 1);
    x.years(1);
    x.pond(22, true);
    x.side(7);
    due(x.back(), 1);
    alike(x, twin);
    // FALLEN, YEARS, SEED, LEFT, OLD, DOUBT
    x = on("pond 12;person 0 1 22 0;is 0 1;old 1;doubt 0", "0o");
    x.walk(0, 1, 0);
    x.years(1);
    x.seed(5);
    x.image();
    x.walk(0, 1, 0);
    x.tell(2, 12);
    x.years(2);
    x.pond(12, false);
    due(x.status(7), 2);
    x.back();
    int[] kept = {1, 5, 1, 0, 0, 1, 1, 1, 0, 5};
    for (int what = 0; what < kept.length; what++) due(x.status(what), kept[what]);
    due(x.personOf(0, 4), 1);
    // the newest one only
    x = fresh();
    x.image();
    x.side(6);
    x.image();
    x.side(7);
    x.back();
    due(x.status(1), 6);
    x.back();
    due(x.status(1), 6);
    // what comes behind it isn't kept
    x.pond(0, true);
    x.back();
    due(x.isPond(0), 0);
  }

  private static LeftIsAgreedOn imaged() {
    LeftIsAgreedOn x = fresh();
    x.image();
    return x;
  }

  private static void back() {
    promise(51, "All is again as it was kept (SHELVES with PEOPLE hold those of the same numbers, or NOTHING): 1. STUCK: nothing was.");
    refused(Boundary::fresh, x -> x.back(), STUCK);
    refused(Boundary::full, x -> x.back(), STUCK);
    // the tape, SHELVES with ROWS, and REFUSALS stay
    LeftIsAgreedOn x = some();
    int bad = x.status(12);
    x.side(0);
    x.row(0, 3, 2);
    x.set(0, 1, 5);
    due(x.back(), 1);
    due(x.status(12), bad + 1);
    due(x.status(8), 6);
    due(x.holds(0) * 100 + x.element(0, 1), 305);
    due(x.element(2, 2), -1);
    // two were kept: 1 holds the number 1, 6 held the number 2
    due(x.status(0), 2);
    due(x.holds(1), 11);
    due(x.holds(6), NONE);
    due(x.status(10), 6);
    due(x.set(6, 0, 0), NOTHING);
    due(x.says(6, 0), NOTHING);
    // one of the same number comes: the SHELF holds NOTHING all the same
    due(x.person(0, 0, 0, 0), 2);
    due(x.holds(6), NONE);
    due(x.back(), 1);
    due(x.holds(6), NONE);
    // the kept side is smaller: what was farther out is gone for good
    x = fresh();
    x.image();
    x.side(7);
    x.pond(66, true);
    x.person(0, 0, 65, 0);
    due(x.back(), 1);
    due(x.isPond(66), BAD);
    due(x.status(0) + x.status(5), 0);
    x.side(7);
    due(x.isPond(66), 0);
    due(x.shore(), 0);
    // more people were kept than there are: there are no fewer ever, so a SHELF holds who was there
    x = full();
    x.image();
    for (int s = 0; s < 8; s++) x.show(s, 7 - s);
    due(x.back(), 1);
    for (int s = 0; s < 8; s++) due(x.holds(s), 17 - s);
    // nobody was kept: all SHELVES with PEOPLE hold NOTHING
    x = fresh();
    x.image();
    for (int person = 0; person < 8; person++) x.person(0, 0, 0, 0);
    for (int s = 0; s < 8; s++) x.show(s, s);
    x.row(3, 0, 0);
    due(x.back(), 1);
    for (int s = 0; s < 8; s++) due(x.holds(s), s == 3 ? 0 : NONE);
    due(x.status(10), 1);
    // a fault in a text doesn't touch what was kept
    feed(x, "side 7;side 6");
    due(x.island(), -32);
    due(x.back(), 1);
    due(x.status(1), 5);
  }

  private static void status() {
    promise(52, "PEOPLE (0), SIDE (1), LEFT (2), OLD (3), DOUBT (4), PONDS (5), YEARS (6), FALLEN (7), THE TAPE's size (8), "
        + "SEED (9), SHELVES that hold something (10); 12 to 16: REFUSALS -2 to -6. NONE another what.");
    for (int what : new int[] {MIN, -2, -1, 11, 17, 18, MAX}) {
      asks(Boundary::fresh, x -> x.status(what), NONE);
      asks(Boundary::some, x -> x.status(what), NONE);
    }
    int[] of = {8, 5, 0, 0, 3, 1, 0, 0, 250, 1, 7, NONE, 0, 0, 0, 0, 0};
    for (int what = 0; what < of.length; what++) {
      int w = what;
      asks(Boundary::full, x -> x.status(w), of[w]);
    }
    LeftIsAgreedOn x = some();
    due(x.status(0), 3);
    due(x.status(5), 2);
    due(x.status(6), 1);
    due(x.status(7), 1);
    due(x.status(8), 6);
    due(x.status(10), 6);
    x.row(3, 0, 0);
    due(x.status(10), 6);
    x.show(3, NONE);
    due(x.status(10), 5);
    // PONDS farther out than the first side
    x.side(7);
    for (int cell : new int[] {6, 60, 66}) x.pond(cell, true);
    due(x.status(5), 5);
    x.pond(66, false);
    x.pond(66, false);
    due(x.status(5), 4);
  }

  private static void calls() {
    opening("An object is used for at most 512 calls after it has been made");
    // the 512th call answers as the others do
    LeftIsAgreedOn x = on("person 0 1 22 0", "0o");
    int made = 15 + 1 + 2;
    for (int call = made; call < 511; call++) due(x.comes(0, 1, 0, 0), 12);
    due(x.walk(0, 1, 0), 12);
    x = fresh();
    for (int call = 1; call <= 512; call++) due(x.feed(1), call <= 250 ? call : FULL);
    x = fresh();
    for (int call = 1; call <= 511; call++) due(x.side(8), BAD);
    due(x.status(12), 511);
    x = on("person 0 1 22 0");
    for (int call = 16; call < 511; call++) x.years(60);
    due(x.status(6), 495 * 60);
  }
}
