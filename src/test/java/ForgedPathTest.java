/**
 * Messages and paths, sentence by sentence, in modules that the sender never sends: promises 17 to
 * 19. In a forged block of eight bytes the second byte is 0 and the fourth one is 1.
 */
public final class ForgedPathTest {
  private static final int MISSING = CarouselMount.MISSING;
  private static final int WAITING = CarouselMount.WAITING;
  private static final Due due = new Due();

  public static void main(String[] args) {
    gatewayMustFitIn();
    gatewayMustBeOfKindOne();
    gatewayIsTheFirstMessage();
    messageMustFitWithItsFirstThreeBytes();
    messageMustFitWithItsLength();
    nothingFollowsWhatDoesNotFit();
    onlyKindsOneAndTwoHaveEntries();
    entriesAreLengthDividedByFour();
    firstEntryWithNameIsTaken();
    firstMessageWithKeyIsTaken();
    entrysKindDoesNotMatter();
    entryLeadsToModuleThatIsNotListed();
    entryLeadsToModuleThatIsNotWhole();
    pathMayLeadBack();
    sizeIsDividedForKindsOneAndTwo();
    readIsNotDivided();
    due.end();
  }

  /** A receiver that has module 0 alone, with these bytes. */
  private static Twin module0(int... bytes) {
    Forged forged = new Forged(due);
    forged.feed("list", Forged.LIST, Forged.list(5, bytes.length, 0, 9));
    feedModule(forged, 0, bytes);
    return forged.x;
  }

  private static void feedModule(Forged forged, int m, int... bytes) {
    for (int b = 0; 8 * b < bytes.length; b++) {
      int[] part = new int[Math.min(8, bytes.length - 8 * b)];
      System.arraycopy(bytes, 8 * b, part, 0, part.length);
      forged.feed("block " + b, Forged.BLOCK, Forged.block(m, 9, b, part));
    }
  }

  /** Module 0 has the gateway, whose only entry, 1, leads to the key given in module 1. */
  private static Twin module1(int key, int... bytes) {
    Forged forged = new Forged(due);
    forged.feed("list", Forged.LIST, Forged.list(5, 8, 0, 9, bytes.length, 0, 9));
    feedModule(forged, 0, 1, 0, 4, 1, 3, 1, key, 0);
    due.is("module 1 is not whole", forged.x.kind(1, 0, 0), WAITING);
    feedModule(forged, 1, bytes);
    return forged.x;
  }

  private static void all(String what, Twin x, int a, int b, int c, int want) {
    due.is(what + ": kind", x.kind(a, b, c), want);
    due.is(what + ": size", x.size(a, b, c), want);
    due.is(what + ": read", x.read(a, b, c, 0), want);
    due.is(what + ": read at a wrong place", x.read(a, b, c, -1), want);
  }

  private static void gatewayMustFitIn() {
    due.sentence("where a message does not fit into what is left (its three first bytes, or its"
        + " length), there are no more");
    all("one byte", module0(1), 0, 0, 0, MISSING);
    all("two bytes", module0(1, 0), 0, 0, 0, MISSING);
    due.is("three bytes", module0(1, 0, 0).kind(0, 0, 0), 1);
    all("three bytes, a length of 1", module0(1, 0, 1), 0, 0, 0, MISSING);
    all("three bytes, a length of 255", module0(1, 0, 255), 0, 0, 0, MISSING);
    due.is("four bytes, a length of 1", module0(1, 0, 1, 7).kind(0, 0, 0), 1);
    all("four bytes, a length of 2", module0(1, 0, 2, 7), 0, 0, 0, MISSING);
    due.is("eight bytes, a length of 5", module0(1, 0, 5, 1, 3, 0, 0, 9).kind(0, 0, 0), 1);
    all("eight bytes, a length of 6", module0(1, 0, 6, 1, 3, 0, 0, 9), 0, 0, 0, MISSING);
    due.is("nine bytes, a length of 6", module0(1, 0, 6, 1, 3, 0, 0, 9, 9).kind(0, 0, 0), 1);
    all("one byte, with names", module0(1), 1, 2, 3, MISSING);
  }

  private static void gatewayMustBeOfKindOne() {
    due.sentence("which must be of kind 1 (else MISSING)");
    for (int kind : new int[] {0, 2, 3, 4, 129, 255}) {
      all("kind " + kind, module0(kind, 0, 0), 0, 0, 0, MISSING);
      all("kind " + kind + ", with a name", module0(kind, 0, 4, 1, 3, 0, 0, 9), 1, 0, 0, MISSING);
    }
    due.is("kind 1", module0(1, 0, 0).kind(0, 0, 0), 1);
    due.is("kind 1 with another key", module0(1, 9, 0).kind(0, 0, 0), 1);
  }

  private static void gatewayIsTheFirstMessage() {
    due.sentence("the gateway: the first message of module 0");
    all("a directory before it", module0(2, 0, 1, 1, 1, 0, 0, 9), 0, 0, 0, MISSING);
    Twin x = module0(1, 0, 1, 1, 1, 0, 1, 9);
    due.is("two of kind 1: kind", x.kind(0, 0, 0), 1);
    due.is("two of kind 1: the first one's byte", x.read(0, 0, 0, 0), 1);
  }

  private static void messageMustFitWithItsFirstThreeBytes() {
    due.sentence("where a message does not fit into what is left (its three first bytes, or its"
        + " length), there are no more");
    due.is("three bytes are left", module1(6, 3, 0, 2, 1, 9, 3, 6, 0).kind(1, 0, 0), 3);
    all("two bytes are left", module1(6, 3, 0, 3, 1, 9, 9, 3, 6), 1, 0, 0, MISSING);
    all("one byte is left", module1(6, 3, 0, 4, 1, 9, 9, 9, 3), 1, 0, 0, MISSING);
    all("none is left", module1(6, 3, 0, 5, 1, 9, 9, 9, 9), 1, 0, 0, MISSING);
    all("two bytes in all", module1(2, 3, 2), 1, 0, 0, MISSING);
    all("one byte in all", module1(2, 3), 1, 0, 0, MISSING);
  }

  private static void messageMustFitWithItsLength() {
    due.sentence("where a message does not fit into what is left (its three first bytes, or its"
        + " length), there are no more");
    due.is("a length of 1", module1(6, 3, 0, 1, 1, 3, 6, 1, 77).read(1, 0, 0, 0), 77);
    all("a length of 2", module1(6, 3, 0, 1, 1, 3, 6, 2, 77), 1, 0, 0, MISSING);
    all("a length of 255", module1(6, 3, 0, 1, 1, 3, 6, 255, 77), 1, 0, 0, MISSING);
    due.is("the one before it", module1(0, 3, 0, 1, 1, 3, 6, 2, 77).size(1, 0, 0), 1);
  }

  private static void nothingFollowsWhatDoesNotFit() {
    due.sentence("there are no more");
    all("behind it a fitting one", module1(6, 3, 0, 9, 1, 3, 6, 1, 77), 1, 0, 0, MISSING);
    all("itself", module1(0, 3, 0, 9, 1, 3, 6, 1, 77), 1, 0, 0, MISSING);
  }

  private static void onlyKindsOneAndTwoHaveEntries() {
    due.sentence("what was reached must be of kind 1 or 2 (else MISSING)");
    for (int kind : new int[] {0, 1, 2, 3, 4, 129, 130, 255}) {
      Twin x = module1(0, kind, 0, 4, 1, 3, 0, 0, 9);
      due.is("kind " + kind, x.kind(1, 0, 0), kind);
      if (kind == 1 || kind == 2) {
        due.is("kind " + kind + ": its entry leads to the gateway", x.kind(1, 1, 0), 1);
      } else {
        all("kind " + kind + ": no entry", x, 1, 1, 0, MISSING);
      }
      due.is("kind " + kind + ": no such name", x.kind(1, 2, 0), MISSING);
    }
  }

  private static void entriesAreLengthDividedByFour() {
    due.sentence("of its entries (its length divided by four, without remainder)");
    Twin none = module0(1, 0, 3, 1, 3, 0, 0, 9);
    due.is("3: size", none.size(0, 0, 0), 0);
    all("3: no whole entry", none, 1, 0, 0, MISSING);
    Twin four = module0(1, 0, 4, 1, 3, 0, 0, 9);
    due.is("4: size", four.size(0, 0, 0), 1);
    due.is("4: its entry", four.kind(1, 0, 0), 1);
    Twin five = module0(1, 0, 5, 1, 3, 0, 0, 2);
    due.is("5: size", five.size(0, 0, 0), 1);
    due.is("5: its entry", five.kind(1, 0, 0), 1);
    all("5: the name in the remainder", five, 2, 0, 0, MISSING);
    Twin seven = module0(1, 0, 7, 1, 3, 0, 0, 2, 3, 0);
    due.is("7: size", seven.size(0, 0, 0), 1);
    all("7: the name in the remainder", seven, 2, 0, 0, MISSING);
    Twin eight = module0(1, 0, 8, 1, 3, 0, 0, 2, 3, 0, 0);
    due.is("8: size", eight.size(0, 0, 0), 2);
    due.is("8: the second entry", eight.kind(2, 0, 0), 1);
    all("8: a kind is no name", eight, 3, 0, 0, MISSING);
    Twin one = module0(1, 0, 1, 1);
    due.is("1: size", one.size(0, 0, 0), 0);
    all("1: no whole entry", one, 1, 0, 0, MISSING);
  }

  private static void firstEntryWithNameIsTaken() {
    due.sentence("the first one with that name is taken (MISSING if there is none)");
    Twin x = module0(1, 0, 8, 1, 3, 0, 0, 1, 3, 5, 0);
    due.is("the first leads to the gateway", x.kind(1, 0, 0), 1);
    Twin y = module0(1, 0, 8, 1, 3, 5, 0, 1, 3, 0, 0);
    all("the first leads out of the list", y, 1, 0, 0, MISSING);
    Twin z = module0(1, 0, 8, 1, 3, 0, 7, 1, 3, 0, 0);
    all("the first leads to no message", z, 1, 0, 0, MISSING);
    all("no such name", x, 2, 0, 0, MISSING);
  }

  private static void firstMessageWithKeyIsTaken() {
    due.sentence("it leads to the first message, in the module that the entry says, with the key"
        + " that it says (MISSING if there is none)");
    Twin twice = module1(0, 3, 0, 1, 1, 4, 0, 1, 77);
    due.is("the key is there twice: kind", twice.kind(1, 0, 0), 3);
    due.is("the key is there twice: byte", twice.read(1, 0, 0, 0), 1);
    due.is("the second message", module1(6, 3, 0, 1, 1, 4, 6, 1, 77).read(1, 0, 0, 0), 77);
    all("another key", module1(5, 3, 0, 1, 1, 4, 6, 1, 77), 1, 0, 0, MISSING);
    all("a kind is no key", module1(3, 3, 0, 1, 1, 4, 6, 1, 77), 1, 0, 0, MISSING);
    due.is("key 255", module1(255, 3, 0, 1, 1, 4, 255, 1, 77).read(1, 0, 0, 0), 77);
  }

  private static void entrysKindDoesNotMatter() {
    due.sentence("The kind of the message that the path (a, b, c) leads to");
    for (int kind : new int[] {0, 1, 2, 3, 4, 255}) {
      due.is("kind " + kind, module1(2, kind, 2, 0).kind(1, 0, 0), kind);
    }
  }

  private static void entryLeadsToModuleThatIsNotListed() {
    due.sentence("when it is not listed though there is a list: MISSING");
    for (int m : new int[] {1, 2, 11, 12, 13, 128, 255}) {
      all("module " + m, module0(1, 0, 4, 1, 3, m, 0, 9), 1, 0, 0, MISSING);
      all("module " + m + ", a further name", module0(1, 0, 4, 1, 3, m, 0, 9), 1, 1, 0, MISSING);
    }
    due.is("module 0", module0(1, 0, 4, 1, 3, 0, 0, 9).kind(1, 0, 0), 1);
  }

  private static void entryLeadsToModuleThatIsNotWhole() {
    due.sentence("When that module, or module 0, is listed but not whole, or the receiver has no"
        + " list yet: WAITING");
    Forged forged = new Forged(due);
    all("no list", forged.x, 1, 0, 0, WAITING);
    forged.feed("list", Forged.LIST, Forged.list(5, 8, 0, 9, 1, 0, 9));
    all("module 0 is not whole", forged.x, 0, 0, 0, WAITING);
    all("module 0 is not whole", forged.x, 1, 0, 0, WAITING);
    feedModule(forged, 0, 1, 0, 4, 1, 3, 1, 0, 9);
    due.is("module 0 is whole", forged.x.kind(0, 0, 0), 1);
    all("module 1 is not whole", forged.x, 1, 0, 0, WAITING);
    all("module 1 is not whole, a further name", forged.x, 1, 9, 0, WAITING);
    all("no such name", forged.x, 2, 0, 0, MISSING);
    all("no such name, a further name", forged.x, 2, 1, 0, MISSING);
    Forged cut = new Forged(due);
    cut.feed("list", Forged.LIST, Forged.list(5, 9, 0, 9));
    feedModule(cut, 0, 1, 0, 4, 1, 3, 0, 0, 9);
    due.is("one block of two", cut.x.held(0), 1);
    all("one block of two", cut.x, 0, 0, 0, WAITING);
    Forged other = new Forged(due);
    other.feed("list", Forged.LIST, Forged.list(5, 9, 0, 9));
    other.feed("block 1", Forged.BLOCK, Forged.block(0, 9, 1, 1));
    due.is("the other block of two", other.x.held(0), 1);
    all("the other block of two", other.x, 0, 0, 0, WAITING);
  }

  private static void pathMayLeadBack() {
    due.sentence("then for each name: what was reached must be of kind 1 or 2");
    Twin x = module0(1, 0, 4, 1, 3, 0, 0, 9);
    due.is("one name", x.kind(1, 0, 0), 1);
    due.is("two names", x.kind(1, 1, 0), 1);
    due.is("three names", x.kind(1, 1, 1), 1);
    due.is("the third is none", x.kind(1, 1, 2), MISSING);
    due.is("size", x.size(1, 1, 1), 1);
    due.is("byte", x.read(1, 1, 1, 0), 1);
  }

  private static void sizeIsDividedForKindsOneAndTwo() {
    due.sentence("The length of the message that the path leads to, for the kinds 1 and 2 divided"
        + " by four without remainder.");
    for (int kind : new int[] {0, 1, 2, 3, 4, 255}) {
      boolean divided = kind == 1 || kind == 2;
      due.is("kind " + kind + ", length 0", module1(2, kind, 2, 0).size(1, 0, 0), 0);
      for (int length = 3; length < 6; length++) {
        due.is("kind " + kind + ", length " + length,
            module1(0, kind, 0, length, 1, 9, 9, 9, 9).size(1, 0, 0),
            divided ? length / 4 : length);
      }
    }
  }

  private static void readIsNotDivided() {
    due.sentence("Byte i (from 0) of the message that the path leads to, behind its three first"
        + " bytes.");
    for (int kind : new int[] {0, 1, 2, 3}) {
      Twin x = module1(0, kind, 0, 5, 1, 12, 13, 14, 255);
      int[] bytes = {1, 12, 13, 14, 255};
      for (int i = 0; i < 5; i++) {
        due.is("kind " + kind + ": byte " + i, x.read(1, 0, 0, i), bytes[i]);
      }
      for (int i : Edges.outside(0, 4)) {
        due.is("kind " + kind + ": byte " + i, x.read(1, 0, 0, i), MISSING);
      }
    }
    Twin left = module0(1, 0, 1, 1, 9, 9, 9, 9);
    due.is("a byte behind the message", left.read(0, 0, 0, 1), MISSING);
  }
}
