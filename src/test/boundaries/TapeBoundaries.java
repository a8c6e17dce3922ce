// The boundary cases of an ISLAND that is read from THE TAPE (Terms, and promises 15 to 17).
final class TapeBoundaries extends Boundary {
  static void run() {
    sizes();
    tokens();
    words();
    numbers();
    signs();
    blanks();
    statements();
    sides();
    ponds();
    dry();
    persons();
    pledges();
    years();
    allOrNothing();
    faults();
    noRoom();
    tooEarly();
    feeding();
    wiping();
    reading();
  }

  // what stands ahead: the tape is empty, two people, a pond
  private static LeftIsAgreedOn isle() {
    LeftIsAgreedOn x = on("pond 12;person 0 1 22 0;person 1 1 0 0;is 1 1;left 1;old 1;doubt 4", "0olr");
    x.show(1, 1);
    x.image();
    return x;
  }

  private static void taken(Maker maker, String text, int statements) {
    LeftIsAgreedOn x = maker.make();
    feed(x, text);
    due(x.island(), statements);
    due(x.status(8), 0);
    due(x.status(12), maker.make().status(12));
  }

  private static void taken(String text, int statements) {
    taken(TapeBoundaries::isle, text, statements);
  }

  private static void fault(Maker maker, String text, int place) {
    LeftIsAgreedOn x = maker.make();
    feed(x, text);
    due(x.island(), -20 - place);
    due(x.status(8), 0);
    unchanged(x, maker.make(), BAD);
  }

  private static void fault(String text, int place) {
    fault(TapeBoundaries::isle, text, place);
  }

  private static void sizes() {
    terms("An ISLAND is read from THE TAPE (bytes, 250 at most).");
    StringBuilder text = new StringBuilder();
    for (int i = 0; i < 35; i++) text.append("left 0;");
    taken(text + "old 1", 36);
    taken(text + "old1 ", 36);
    fault(text + "old 2", 249);
    fault(text + "dry 5", 249);
    fault(text + "doubt", 250);
    fault(text + "     ", 250);
    taken("side 5" + " ".repeat(244), 1);
    taken(" ".repeat(244) + "side 5", 1);
    fault(" ".repeat(250), 250);
    fault("s".repeat(250), 0);
    fault("side " + "5".repeat(245), 5);
    // the 251st byte isn't there
    LeftIsAgreedOn x = isle();
    feed(x, text + "old 0");
    due(x.feed('0'), FULL);
    due(x.status(8), 250);
    due(x.island(), 36);
    due(x.status(3), 0);
  }

  private static void tokens() {
    terms("TOKENS, each as long as can be:");
    taken("side5", 1);
    taken("left1;old0", 2);
    taken("person0 0 1 0", 1);
    fault("side55", 4);
    fault("leftold 1", 0);
    fault("left1old1", 5);
    fault("left1 old1", 6);
    fault("isis0 1", 0);
    fault("is00 11", 5);
    fault("person 0000", 7);
    fault("left 11", 5);
  }

  private static void words() {
    terms("WORDS (a .. z)");
    fault("a", 0);
    fault("z", 0);
    fault("`", 0);
    fault("{", 0);
    fault("side`5", 4);
    fault("side{5", 4);
    fault("sideA5", 4);
    fault("sideZ 5", 4);
    fault("SIDE 5", 0);
    fault("Side 5", 0);
    fault("sid 5", 0);
    fault("sides 5", 0);
    fault("aside 5", 0);
    fault("zleft 1", 0);
    String[] all = {"side 5", "pond 1", "dry 1", "person 0 0 1 0", "is 0 1", "left 1", "old 1", "doubt 1"};
    for (String one : all) {
      taken(one, 1);
      int end = one.indexOf(' ');
      fault(one.substring(0, end - 1) + one.substring(end), 0);
      fault(one.substring(0, end) + one.charAt(end - 1) + one.substring(end), 0);
      fault((char) (one.charAt(0) - 32) + one.substring(1), 0);
      fault('b' + one.substring(1), 0);
      fault(one.substring(0, end - 1) + 'b' + one.substring(end), 0);
    }
  }

  private static void numbers() {
    terms("NUMBERS (digits)");
    fault("side /", 5);
    fault("side :", 5);
    fault("side 5/", 6);
    fault("side 5:", 6);
    fault("side -5", 5);
    fault("side +5", 5);
    fault("side 5.0", 6);
    fault("side five", 5);
    // a word, a sign or nothing where a NUMBER is wanted, behind a statement whose NUMBER would do
    fault("left 1;old x", 11);
    fault("left 1;old old", 11);
    fault("left 1;old ;", 11);
    fault("left 1;old !", 11);
    fault("left 1;old", 10);
    taken("doubt 0", 1);
    taken("doubt 9", 1);
    taken("doubt 09", 1);
    fault("9", 0);
    fault("0 side 5", 0);
  }

  private static void signs() {
    terms("the SIGN ;");
    taken("left 0;old 0", 2);
    for (char c : new char[] {':', '<', ',', '.', '\n', '!', '/'}) fault("left 0" + c + "old 0", 6);
    fault("left;0", 4);
    fault("side ;", 5);
  }

  private static void blanks() {
    terms("blanks (32) may stand anywhere between");
    taken("   left   1  ;   old   0   ", 2);
    taken("left1;old0", 2);
    taken("person 0 0 1 0", 1);
    taken("   person   0   0   1   0   ;dry 1   ", 2);
    for (int c : new int[] {0, 9, 10, 11, 12, 13, 31, 33, 127, 128, 133, 160, 255}) {
      fault("left" + (char) c + "1", 4);
      fault("left 1" + (char) c, 6);
      fault((char) c + "left 1", 0);
    }
    fault("le ft 1", 0);
    fault("doubt 1 2", 8);
    fault("person 0 0 1 0 0", 15);
  }

  private static void statements() {
    terms("STATEMENTS, one or more, with ; between:");
    fault("", 0);
    fault(" ", 1);
    fault(";", 0);
    taken("left 1", 1);
    taken("left 1;left 0", 2);
    fault("left 1;", 7);
    fault("left 1; ", 8);
    fault(";left 1", 0);
    fault(" ;left 1", 1);
    fault("left 1;;old 1", 7);
    fault("left 1; ;old 1", 8);
    fault("left 1 old 1", 7);
    fault("left 1;1", 7);
    fault("left;", 4);
  }

  private static void sides() {
    terms("side N (only as many or more)");
    for (int n = 0; n <= 99; n++) {
      if (n >= 5 && n <= 7) taken("side " + n, 1);
      else fault("side " + n, 5);
    }
    taken("side 6;side 6;side 7;side 7", 4);
    fault("side 7;side 6", 12);
    Maker seven = () -> { LeftIsAgreedOn x = isle(); x.side(7); return x; };
    taken(seven, "side 7", 1);
    fault(seven, "side 6", 5);
    fault(seven, "side 8", 5);
    // CELLS that come with it, from then on
    taken("side 7;pond 66;person 0 0 65 0", 3);
    taken("side 6;pond 55", 2);
    fault("pond 55;side 6", 5);
    fault("side 6;pond 56", 12);
    fault("side 6;pond 60", 12);
  }

  private static void ponds() {
    terms("pond C (not where somebody is)");
    for (int cell = 0; cell <= 99; cell++) {
      boolean is = cell / 10 < 5 && cell % 10 < 5;
      if (is && cell != 0 && cell != 22) taken("pond " + cell, 1);
      else fault("pond " + cell, 5);
    }
    taken("pond 12;pond 12", 2);
    taken("pond 4", 1);
    taken("pond 04", 1);
    fault("pond 00", 5);
    fault("person 0 0 44 0;pond 44", 21);
    fault("pond 44;pond 22", 13);
  }

  private static void dry() {
    terms("dry C (no POND any more)");
    for (int cell = 0; cell <= 99; cell++) {
      if (cell / 10 < 5 && cell % 10 < 5) taken("dry " + cell, 1);
      else fault("dry " + cell, 4);
    }
    LeftIsAgreedOn x = on("pond 12;pond 13;dry 12;dry 14");
    due(x.isPond(12) * 100 + x.isPond(13) * 10 + x.isPond(14), 10);
    taken("dry 12;person 0 0 12 0", 2);
    taken("pond 1;dry 1;person 0 0 1 0", 3);
    fault("dry 12;person 0 0 12 0;pond 12", 28);
  }

  private static void persons() {
    terms("person K A C F (C no POND; F: FACES)");
    for (int v = 0; v <= 99; v++) {
      if (v <= 5) taken("person " + v + " 0 1 0", 1);
      else fault("person " + v + " 0 1 0", 7);
      if (v <= 9) taken("person 0 " + v + " 1 0", 1);
      else fault("person 0 " + v + " 1 0", 9);
      if (v / 10 < 5 && v % 10 < 5 && v != 12) taken("person 0 0 " + v + " 0", 1);
      else fault("person 0 0 " + v + " 0", 11);
      if (v <= 3) taken("person 0 0 1 " + v, 1);
      else fault("person 0 0 1 " + v, 13);
    }
    fault("pond 44;person 0 0 44 0", 19);
    // the first one that can't stand there, of several
    fault("person 6 10 12 4", 7);
    fault("person 0 10 12 4", 9);
    fault("person 0 0 12 4", 11);
    taken("person 0 0 22 0;person 0 0 22 0", 2);
    LeftIsAgreedOn x = on("person 5 9 44 3");
    due(x.personOf(0, 0) * 10000 + x.personOf(0, 1) * 1000 + x.personOf(0, 2) * 10 + x.personOf(0, 3), 59443);
    due(x.personOf(0, 4), 0);
  }

  private static void pledges() {
    terms("is X N (FOR)");
    for (int v = 0; v <= 99; v++) {
      if (v <= 1) taken("is " + v + " 0", 1);
      else fault("is " + v + " 0", 3);
      if (v <= 1) taken("is 0 " + v, 1);
      else fault("is 0 " + v, 5);
    }
    fault("is 2 2", 3);
    taken("person 0 0 1 0;is 2 1", 2);
    fault("is 2 1;person 0 0 1 0", 3);
    fault(Boundary::fresh, "is 0 0", 3);
    StringBuilder eight = new StringBuilder();
    for (int i = 0; i < 6; i++) eight.append("person 0 0 1 0;");
    taken(eight + "is 7 1", 7);
    fault(eight + "is 8 1", 93);
  }

  private static void years() {
    terms("left N; old N; doubt N");
    for (int v = 0; v <= 99; v++) {
      if (v <= 1) taken("left " + v, 1);
      else fault("left " + v, 5);
      if (v <= 1) taken("old " + v, 1);
      else fault("old " + v, 4);
      if (v <= 12) taken("doubt " + v, 1);
      else fault("doubt " + v, 6);
    }
    LeftIsAgreedOn x = on("left 1;old 1;doubt 12");
    due(x.status(2) * 1000 + x.status(3) * 100 + x.status(4), 1112);
    feed(x, "doubt 0;old 0;left 0");
    due(x.island(), 3);
    due(x.status(2) * 1000 + x.status(3) * 100 + x.status(4), 0);
  }

  private static void allOrNothing() {
    terms("All comes to what there is, or nothing.");
    String all = "side 6;pond 55;dry 12;person 3 2 12 1;is 0 1;left 0;old 0;doubt 11";
    fault(all + ";doubt 13", all.length() + 7);
    fault(all + ";", all.length() + 1);
    fault(all + "!", all.length());
    LeftIsAgreedOn x = isle();
    feed(x, all);
    due(x.island(), 8);
    due(x.status(0), 3);
    due(x.status(1), 6);
    due(x.status(2) + x.status(3), 0);
    due(x.status(4), 11);
    due(x.isPond(55) * 10 + x.isPond(12), 10);
    due(x.personOf(0, 4) * 10 + x.personOf(1, 4), 11);
    due(x.personOf(2, 2) * 10 + x.personOf(2, 0), 123);
    // what there is stays: who was there, and on the SHELVES
    due(x.personOf(0, 2) * 100 + x.personOf(1, 2), 2200);
    due(x.holds(0) * 100 + x.holds(1), 11);
  }

  private static void faults() {
    terms("The FAULT: the place of the first byte of the first TOKEN that can't stand there "
        + "(also a NUMBER that may not be, or has more than 2 digits;");
    fault("side 005", 5);
    fault("side  005", 6);
    fault("doubt 012", 6);
    fault("doubt 000", 6);
    taken("doubt 00", 1);
    taken("doubt 12", 1);
    fault("pond 001", 5);
    fault("dry 011", 4);
    fault("person 000 0 1 0", 7);
    fault("person 0 000 1 0", 9);
    fault("person 0 0 001 0", 11);
    fault("person 0 0 1 000", 13);
    fault("is 000 1", 3);
    fault("is 0 001", 5);
    fault("left 001", 5);
    fault("old 000", 4);
    fault("left 4294967297", 5);
    fault("left 18446744073709551616", 5);
    fault("left", 4);
    fault("1", 0);
    fault("left 1;side 4;doubt 13", 12);
    terms("a byte that begins none);");
    for (int c = 0; c < 256; c++) {
      boolean isLetter = c >= 'a' && c <= 'z', isDigit = c >= '0' && c <= '9', isBetween = c == ';' || c == ' ';
      fault("left 1" + (char) c + "x", isDigit ? 5 : isBetween ? 7 : 6);
      if (!isLetter && !isDigit && !isBetween) fault("" + (char) c, 0);
    }
  }

  private static void noRoom() {
    terms("what there is no room for: its word;");
    Maker eight = () -> {
      LeftIsAgreedOn x = isle();
      for (int more = 0; more < 6; more++) x.person(0, 0, 1, 0);
      return x;
    };
    fault(eight, "person 0 0 1 0", 0);
    fault(eight, "  person 0 0 1 0", 2);
    fault(eight, "left 0;person 0 0 1 0", 7);
    taken(eight, "is 7 1", 1);
    Maker seven = () -> {
      LeftIsAgreedOn x = isle();
      for (int more = 0; more < 5; more++) x.person(0, 0, 1, 0);
      return x;
    };
    taken(seven, "person 0 0 1 0", 1);
    fault(seven, "person 0 0 1 0;person 0 0 1 0", 15);
    fault(seven, "person 0 0 1 0; person 0 0 1 0;left 2", 16);
  }

  private static void tooEarly() {
    terms("THE TAPE's size, if it ends too early.");
    for (String word : new String[] {"side", "pond", "dry", "person", "is", "left", "old", "doubt"}) {
      fault(word, word.length());
      fault(word + "  ", word.length() + 2);
      fault("left 1;" + word, word.length() + 7);
    }
    fault("person 0", 8);
    fault("person 0 0", 10);
    fault("person 0 0 1", 12);
    fault("person 0 0 1 ", 13);
    fault("is 0", 4);
    fault("is 0   ", 7);
    // what can't stand there ahead of the end is no early end
    fault("person 0 10", 9);
    fault("is 2", 3);
  }

  private static void feeding() {
    promise(15, "THE TAPE gets one byte (0 to 255) behind it: its size. BAD; FULL.");
    for (int letter : new int[] {MIN, -2, -1, 256, 257, MAX}) {
      refused(Boundary::some, x -> x.feed(letter), BAD);
      refused(Boundary::full, x -> x.feed(letter), BAD);
    }
    for (int letter : new int[] {0, 1, 32, 127, 128, 254, 255}) {
      due(fresh().feed(letter), 1);
      refused(Boundary::full, x -> x.feed(letter), FULL);
    }
    LeftIsAgreedOn x = fresh();
    for (int size = 1; size <= 250; size++) due(x.feed(size == 250 ? 0 : 255), size);
    due(x.feed(0), FULL);
    due(x.status(8), 250);
    // there is room again
    due(x.wipe(), 250);
    due(x.feed(0), 1);
    for (int size = 2; size <= 250; size++) x.feed(0);
    due(x.feed(0), FULL);
    x.island();
    due(x.feed(0), 1);
  }

  private static void wiping() {
    promise(16, "THE TAPE is empty: its size ahead.");
    LeftIsAgreedOn x = fresh();
    due(x.wipe(), 0);
    due(x.feed(1), 1);
    due(x.wipe(), 1);
    due(x.wipe(), 0);
    due(x.status(8), 0);
    due(full().wipe(), 250);
    // what was on it is gone
    x = fresh();
    feed(x, "side 7;");
    x.wipe();
    feed(x, "side 6");
    due(x.island(), 1);
    due(x.status(1), 6);
  }

  private static void reading() {
    promise(17, "THE TAPE is an ISLAND: how many STATEMENTS; -20 less the FAULT (that is refused, too: BAD). "
        + "THE TAPE is empty then, either way.");
    LeftIsAgreedOn x = fresh();
    due(x.island(), -20);
    due(x.status(12), 1);
    feed(x, "side 7");
    due(x.island(), 1);
    due(x.status(8), 0);
    due(x.status(12), 1);
    due(x.island(), -20);
    feed(x, "side 6");
    due(x.island(), -25);
    due(x.status(8), 0);
    due(x.status(12), 3);
    due(x.island(), -20);
    due(x.status(13) + x.status(14) + x.status(15) + x.status(16), 0);
    for (int i = 0; i < 250; i++) x.feed(' ');
    due(x.island(), -270);
    due(x.status(8), 0);
    refused(Boundary::fresh, y -> y.island() == -20 ? BAD : 0, BAD);
  }
}
