// Each sentence of the document that names a boundary case (too small, too large, empty, full, a
// wrap-around, a refused call), with calls of its own: see ../boundaries. At the end it is looked
// whether no sentence of the terms and promises was left out, and each promise's refusals were met.
public final class BoundariesTest {
  public static void main(String[] args) {
    TermsBoundaries.run();
    TapeBoundaries.run();
    TellingBoundaries.run();
    ShelfBoundaries.run();
    IslandBoundaries.run();
    AskBoundaries.run();
    VoteBoundaries.run();
    MeetBoundaries.run();
    TruthBoundaries.run();
    System.exit(Boundary.end());
  }
}
