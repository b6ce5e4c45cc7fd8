import java.util.Random;

/**
 * What a complete section is, and what a list and a block do, sentence by sentence, with sections
 * that the sender never sends: promises 10 to 16.
 */
public final class ForgeryTest {
  private static final int MISSING = CarouselMount.MISSING;
  private static final int WAITING = CarouselMount.WAITING;
  private static final int LIST = Forged.LIST;
  private static final int BLOCK = Forged.BLOCK;
  private static final int BAD = Forged.BAD;
  private static final int STRANGE = Forged.STRANGE;
  private static final Due due = new Due();

  public static void main(String[] args) {
    lessThanSixBytesAreBad();
    wrongCheckIsBad();
    doublingOfZero();
    badComesBeforeStrange();
    listHasFirstByte59();
    listHasNineBytesAtLeast();
    listHasThreeBytesForEachModule();
    listHasOneToTwelveModules();
    listHasSizesOneToFortyEight();
    strangeListChangesNothing();
    blockHasFirstByte60();
    blockHasElevenToEighteenBytes();
    transactionBecomesTheOneOfTheList();
    listKeepsVeryVersionAndSize();
    listOfSameTransaction();
    listOfFewerModules();
    blockOfListedModule();
    blockOfListedVersion();
    blockNumberOfModule();
    blockLengthByModulesSize();
    blockIsHeldWithTheseBytes();
    for (int run = 0; run < 300; run++) {
      randomSections(run);
    }
    due.end();
  }

  private static Forged fresh() {
    return new Forged(due);
  }

  private static void lessThanSixBytesAreBad() {
    due.sentence("It is BAD when it has less than 6 bytes in all");
    fresh().feed("two bytes", BAD, 7, 0);
    fresh().feed("three bytes", BAD, 59, 1, 9);
    fresh().feed("four bytes", BAD, 60, 2, 255, 255);
    fresh().feed("five bytes", BAD, 60, 3, 1, 2, 3);
    int[] five = {92, 3, 147, 143, 215};
    due.is("the last four would be the CHECK of the first", Sections.check(five, 1), 0x03938FD7);
    fresh().feed("five bytes that end with a CHECK", BAD, five);
    fresh().feed("six bytes", STRANGE, Sections.section(7));
    fresh().feed("six bytes, the first is 59", STRANGE, Sections.section(59));
    fresh().feed("six bytes, the first is 60", STRANGE, Sections.section(60));
  }

  private static void wrongCheckIsBad() {
    due.sentence("or its CHECK is not the one due");
    for (int i = 0; i < 12; i++) {
      for (int bit : new int[] {1, 128}) {
        int[] section = Forged.list(5, 3, 0, 1);
        section[i] ^= bit;
        if (i != 1) {
          fresh().feed("byte " + i + " ^ " + bit, BAD, section);
        }
      }
    }
    int[] section = Sections.section(7);
    section[5] ^= 1;
    fresh().feed("six bytes, the last one is wrong", BAD, section);
  }

  private static void doublingOfZero() {
    due.sentence("c is doubled, and if it was negative before that, c becomes c ^ 79764919");
    int[] head = {7, 9};
    int check = Sections.check(head, 2);
    // A row of bytes with its own CHECK behind it makes c 0.
    int[] section = Sections.section(7, check >>> 24, check >>> 16 & 255, check >>> 8 & 255,
        check & 255, 0);
    for (int i = 7; i < 11; i++) {
      due.is("CHECK's byte " + (i - 7), section[i], 0);
    }
    fresh().feed("a CHECK of 0", STRANGE, section);
  }

  private static void badComesBeforeStrange() {
    due.sentence("Otherwise it is a list when its first byte is 59");
    int[] noModules = Forged.list(5);
    noModules[8] ^= 1;
    fresh().feed("a list without modules, with a wrong CHECK", BAD, noModules);
    int[] noTag = Sections.section(61, 1, 2, 3);
    noTag[8] ^= 128;
    fresh().feed("neither list nor block, with a wrong CHECK", BAD, noTag);
    fresh().feed("neither list nor block", STRANGE, Sections.section(61, 1, 2, 3));
  }

  private static void listHasFirstByte59() {
    due.sentence("it is a list when its first byte is 59");
    fresh().feed("59", LIST, Sections.section(59, 0, 5, 1, 3, 0, 1));
    for (int first : new int[] {0, 58, 60, 61, 123, 187, 254}) {
      fresh().feed("" + first, STRANGE, Sections.section(first, 0, 5, 1, 3, 0, 1));
    }
  }

  private static void listHasNineBytesAtLeast() {
    due.sentence("it has at least 9 bytes");
    fresh().feed("6 bytes", STRANGE, Sections.section(59));
    fresh().feed("7 bytes", STRANGE, Sections.section(59, 0));
    fresh().feed("8 bytes", STRANGE, Sections.section(59, 0, 5));
    fresh().feed("9 bytes, no modules", STRANGE, Sections.section(59, 0, 5, 0));
    fresh().feed("9 bytes, one module", STRANGE, Sections.section(59, 0, 5, 1));
    fresh().feed("12 bytes, one module", LIST, Sections.section(59, 0, 5, 1, 3, 0, 1));
  }

  private static void listHasThreeBytesForEachModule() {
    due.sentence("9 + 3 * (number of modules) in all");
    fresh().feed("one: 11 bytes", STRANGE, Sections.section(59, 0, 5, 1, 3, 0));
    fresh().feed("one: 12 bytes", LIST, Sections.section(59, 0, 5, 1, 3, 0, 1));
    fresh().feed("one: 13 bytes", STRANGE, Sections.section(59, 0, 5, 1, 3, 0, 1, 3));
    fresh().feed("one: 15 bytes", STRANGE, Sections.section(59, 0, 5, 1, 3, 0, 1, 3, 0, 1));
    fresh().feed("two: 12 bytes", STRANGE, Sections.section(59, 0, 5, 2, 3, 0, 1));
    fresh().feed("two: 14 bytes", STRANGE, Sections.section(59, 0, 5, 2, 3, 0, 1, 3, 0));
    fresh().feed("two: 15 bytes", LIST, Sections.section(59, 0, 5, 2, 3, 0, 1, 3, 0, 1));
  }

  private static void listHasOneToTwelveModules() {
    due.sentence("there are 1 to 12 modules");
    fresh().feed("none", STRANGE, Forged.list(5));
    fresh().feed("one", LIST, Forged.list(5, 3, 0, 1));
    Forged twelve = fresh().feedList("twelve", LIST, 12);
    due.is("twelve: transaction()", twelve.x.transaction(), 5);
    due.is("twelve: held(11)", twelve.x.held(11), 0);
    due.is("twelve: held(12)", twelve.x.held(12), MISSING);
    Forged thirteen = fresh().feed("one", LIST, Forged.list(7, 3, 0, 1));
    thirteen.feedList("thirteen", STRANGE, 13);
    due.is("thirteen: transaction() is the one of before", thirteen.x.transaction(), 7);
    due.is("thirteen: held(0)", thirteen.x.held(0), 0);
    due.is("thirteen: held(1)", thirteen.x.held(1), MISSING);
    due.is("thirteen: held(12)", thirteen.x.held(12), MISSING);
    fresh().feed("255", STRANGE, Sections.section(59, 0, 5, 255, 3, 0, 1));
  }

  private static void listHasSizesOneToFortyEight() {
    due.sentence("every size is 1 to 48");
    for (int size = 0; size < 256; size++) {
      boolean fits = size >= 1 && size <= 48;
      fresh().feed("size " + size, fits ? LIST : STRANGE, Forged.list(5, size, 0, 1));
    }
    for (int size : new int[] {0, 1, 48, 49, 255}) {
      boolean fits = size >= 1 && size <= 48;
      fresh().feed("first size " + size, fits ? LIST : STRANGE,
          Forged.list(5, size, 0, 1, 3, 0, 1));
      fresh().feed("last size " + size, fits ? LIST : STRANGE,
          Forged.list(5, 3, 0, 1, size, 0, 1));
    }
  }

  private static void strangeListChangesNothing() {
    due.sentence("anything else is STRANGE");
    Forged forged = fresh().feed("list", LIST, Forged.list(5, 3, 0, 9));
    forged.feed("block", BLOCK, Forged.block(0, 9, 0, 1, 0, 0));
    forged.feed("size 0", STRANGE, Forged.list(6, 0, 0, 9));
    due.is("transaction()", forged.x.transaction(), 5);
    due.is("held(0)", forged.x.held(0), 1);
    forged.feed("second size 49", STRANGE, Forged.list(6, 4, 0, 9, 49, 0, 9));
    due.is("transaction()", forged.x.transaction(), 5);
    due.is("held(0)", forged.x.held(0), 1);
    due.is("held(1)", forged.x.held(1), MISSING);
    due.is("kind(0, 0, 0)", forged.x.kind(0, 0, 0), 1);
  }

  private static Forged listed(int... rows) {
    return fresh().feed("list", LIST, Forged.list(5, rows));
  }

  private static void blockHasFirstByte60() {
    due.sentence("a block when its first byte is 60");
    int[] inside = {0, 0, 9, 0, 1, 0, 0};
    listed(3, 0, 9).feed("60", BLOCK, Sections.section(60, inside));
    for (int first : new int[] {0, 58, 59, 61, 188, 254}) {
      Forged forged = listed(3, 0, 9).feed("" + first, STRANGE, Sections.section(first, inside));
      due.is(first + ": held(0)", forged.x.held(0), 0);
    }
  }

  private static void blockHasElevenToEighteenBytes() {
    due.sentence("it has 11 to 18 bytes in all");
    listed(1, 0, 9).feed("9 bytes", STRANGE, Sections.section(60, 0, 0, 9));
    listed(1, 0, 9).feed("10 bytes", STRANGE, Forged.block(0, 9, 0));
    listed(1, 0, 9).feed("11 bytes", BLOCK, Forged.block(0, 9, 0, 1));
    Forged most = listed(8, 0, 9).feedLongBlock("18 bytes", BLOCK, 18);
    due.is("18 bytes: held(0)", most.x.held(0), 1);
    Forged more = listed(8, 0, 9).feedLongBlock("19 bytes", STRANGE, 19);
    due.is("19 bytes: held(0)", more.x.held(0), 0);
    more = listed(9, 0, 9).feedLongBlock("19 bytes of a module of 9", STRANGE, 19);
    due.is("19 bytes of a module of 9: held(0)", more.x.held(0), 0);
  }

  private static void transactionBecomesTheOneOfTheList() {
    due.sentence("the receiver's transaction becomes the one it says");
    for (int transaction : new int[] {0, 1, 255, 256, 32768, 65535}) {
      Forged forged = fresh().feed("list", LIST, Forged.list(transaction, 3, 0, 1));
      due.is("list of " + transaction, forged.x.transaction(), transaction);
      forged.feed("list of 5", LIST, Forged.list(5, 3, 0, 1));
      due.is("a lower or higher one behind it", forged.x.transaction(), 5);
    }
    Forged forged = fresh().feed("list", LIST, Forged.list(0, 3, 0, 1));
    due.is("0 is a list's transaction", forged.x.transaction(), 0);
    due.is("and its modules are listed", forged.x.held(0), 0);
  }

  private static void relisted(String what, int held, int... rows) {
    Forged forged = listed(3, 0, 9).feed("block", BLOCK, Forged.block(0, 9, 0, 1, 0, 0));
    forged.feed(what, LIST, Forged.list(6, rows));
    due.is(what + ": held(0)", forged.x.held(0), held);
    due.is(what + ": kind(0, 0, 0)", forged.x.kind(0, 0, 0), held == 1 ? 1 : WAITING);
    due.is(what + ": transaction()", forged.x.transaction(), 6);
  }

  private static void listKeepsVeryVersionAndSize() {
    due.sentence("when the list has that number, and the receiver has it LISTED with that very"
        + " version and size, what is HELD of it stays");
    relisted("the same", 1, 3, 0, 9);
    relisted("one more module", 1, 3, 0, 9, 3, 0, 9);
    relisted("version 8", 0, 3, 0, 8);
    relisted("version 10", 0, 3, 0, 10);
    relisted("version 265", 0, 3, 1, 9);
    relisted("version 0", 0, 3, 0, 0);
    relisted("size 2", 0, 2, 0, 9);
    relisted("size 4", 0, 4, 0, 9);
    relisted("size 48", 0, 48, 0, 9);
    Forged forged = listed(3, 0, 9).feed("block", BLOCK, Forged.block(0, 9, 0, 1, 0, 0));
    forged.feed("version 8", LIST, Forged.list(6, 3, 0, 8));
    forged.feed("version 9 again", LIST, Forged.list(7, 3, 0, 9));
    due.is("nothing is held of what was listed otherwise between", forged.x.held(0), 0);
  }

  private static void listOfSameTransaction() {
    due.sentence("otherwise nothing is held of it, and it is listed with the new version and size,"
        + " or no longer listed");
    Forged forged = listed(3, 0, 9, 1, 0, 9);
    forged.feed("block", BLOCK, Forged.block(0, 9, 0, 1, 0, 0));
    forged.feed("other rows", LIST, Forged.list(5, 2, 0, 8));
    due.is("transaction()", forged.x.transaction(), 5);
    due.is("held(0)", forged.x.held(0), 0);
    due.is("held(1)", forged.x.held(1), MISSING);
  }

  private static void listOfFewerModules() {
    due.sentence("otherwise nothing is held of it, and it is listed with the new version and size,"
        + " or no longer listed");
    Forged forged = listed(3, 0, 9, 2, 0, 0);
    due.is("version 0 is listed too", forged.x.held(1), 0);
    forged.feed("block of module 1", BLOCK, Forged.block(1, 0, 0, 1, 2));
    due.is("held(1)", forged.x.held(1), 1);
    forged.feed("one module", LIST, Forged.list(6, 3, 0, 9));
    due.is("no longer listed", forged.x.held(1), MISSING);
    forged.feed("two modules again", LIST, Forged.list(7, 3, 0, 9, 2, 0, 0));
    due.is("nothing is held", forged.x.held(1), 0);
    Forged other = listed(3, 0, 9);
    other.feed("new version and size", LIST, Forged.list(6, 2, 0, 8));
    other.feed("block of the new ones", BLOCK, Forged.block(0, 8, 0, 1, 2));
    due.is("held(0)", other.x.held(0), 1);
  }

  private static void refused(String what, Forged forged, int... section) {
    forged.feed(what, STRANGE, section);
    due.is(what + ": held(0)", forged.x.held(0), 0);
    due.is(what + ": kind(0, 0, 0)", forged.x.kind(0, 0, 0), WAITING);
  }

  private static void blockOfListedModule() {
    due.sentence("when its module is listed with its version");
    fresh().feed("without a list", STRANGE, Forged.block(0, 9, 0, 1, 0, 0));
    for (int m : new int[] {1, 2, 11, 12, 13, 128, 255}) {
      refused("module " + m, listed(3, 0, 9), Forged.block(m, 9, 0, 1, 0, 0));
      refused("module " + m + ", version 0", listed(3, 0, 9), Forged.block(m, 0, 0, 1, 0, 0));
    }
    Forged forged = listed(3, 0, 9, 3, 0, 9).feed("module 1", BLOCK,
        Forged.block(1, 9, 0, 1, 0, 0));
    due.is("held(0)", forged.x.held(0), 0);
    due.is("held(1)", forged.x.held(1), 1);
    Forged twelve = fresh().feedList("twelve", LIST, 12);
    twelve.feed("module 12", STRANGE, Forged.block(12, 1, 0, 1));
  }

  private static void blockOfListedVersion() {
    due.sentence("when its module is listed with its version");
    for (int version : new int[] {0, 8, 10, 265, 9 * 256, 65535}) {
      refused("version " + version, listed(3, 0, 9), Forged.block(0, version, 0, 1, 0, 0));
    }
    Forged highest = listed(3, 255, 255).feed("version 65535", BLOCK,
        Forged.block(0, 65535, 0, 1, 0, 0));
    due.is("held(0)", highest.x.held(0), 1);
    Forged least = listed(3, 0, 0).feed("version 0", BLOCK, Forged.block(0, 0, 0, 1, 0, 0));
    due.is("held(0)", least.x.held(0), 1);
  }

  private static void blockNumberOfModule() {
    due.sentence("its number is one of that module's blocks");
    for (int number : new int[] {1, 2, 31, 32, 33, 128, 255}) {
      refused("block " + number + " of one", listed(3, 0, 9),
          Forged.block(0, 9, number, 1, 0, 0));
    }
    refused("size 8: block 1", listed(8, 0, 9), Forged.block(0, 9, 1, 1));
    Forged nine = listed(9, 0, 9).feed("size 9: block 1", BLOCK, Forged.block(0, 9, 1, 1));
    due.is("size 9: held(0)", nine.x.held(0), 1);
    refused("size 9: block 2", listed(9, 0, 9), Forged.block(0, 9, 2, 1));
    Forged most = listed(45, 0, 9).feed("size 45: block 5", BLOCK,
        Forged.block(0, 9, 5, 1, 2, 3, 4, 5));
    due.is("size 45: held(0)", most.x.held(0), 1);
    due.is("size 45: not whole", most.x.kind(0, 0, 0), WAITING);
    refused("size 48: block 6", listed(48, 0, 9), Forged.block(0, 9, 6, 1));
    refused("size 40: block 5", listed(40, 0, 9), Forged.block(0, 9, 5, 1));
    Forged sixth = listed(41, 0, 9).feed("size 41: block 5", BLOCK, Forged.block(0, 9, 5, 1));
    due.is("size 41: held(0)", sixth.x.held(0), 1);
  }

  private static void blockLengthByModulesSize() {
    due.sentence("it has as many bytes as that block must have by the module's size");
    for (int size = 1; size < 8; size++) {
      for (int count = 1; count < 6; count++) {
        Forged forged = listed(size, 0, 9).feed("size " + size + ": block of " + count,
            count == size ? BLOCK : STRANGE, Forged.block(0, 9, 0, new int[count]));
        due.is("held(0)", forged.x.held(0), count == size ? 1 : 0);
      }
    }
    for (int count = 1; count < 6; count++) {
      refused("size 8: block of " + count, listed(8, 0, 9), Forged.block(0, 9, 0, new int[count]));
      refused("size 9: block 0 of " + count, listed(9, 0, 9),
          Forged.block(0, 9, 0, new int[count]));
      refused("size 16: block 1 of " + count, listed(16, 0, 9),
          Forged.block(0, 9, 1, new int[count]));
    }
    refused("size 9: block 1 of two", listed(9, 0, 9), Forged.block(0, 9, 1, 1, 2));
    refused("size 10: block 1 of one", listed(10, 0, 9), Forged.block(0, 9, 1, 1));
    refused("size 45: block 5 of four", listed(45, 0, 9), Forged.block(0, 9, 5, 1, 2, 3, 4));
    listed(7, 0, 9).feedLongBlock("size 7: block of 8", STRANGE, 18);
    listed(9, 0, 9).feedLongBlock("size 9: block 0 of 8", BLOCK, 18);
  }

  private static void blockIsHeldWithTheseBytes() {
    due.sentence("the block is held with these bytes");
    Forged forged = listed(5, 0, 9);
    forged.feed("block", BLOCK, Forged.block(0, 9, 0, 1, 0, 2, 10, 11));
    due.is("first byte", forged.x.read(0, 0, 0, 0), 10);
    due.is("second byte", forged.x.read(0, 0, 0, 1), 11);
    forged.feed("block once more", BLOCK, Forged.block(0, 9, 0, 1, 0, 2, 0, 255));
    due.is("held as before", forged.x.held(0), 1);
    due.is("first byte of the later one", forged.x.read(0, 0, 0, 0), 0);
    due.is("second byte of the later one", forged.x.read(0, 0, 0, 1), 255);
    forged.feed("strange block", STRANGE, Forged.block(0, 9, 0, 1, 0, 1, 7));
    due.is("a strange one changes nothing", forged.x.read(0, 0, 0, 1), 255);
  }

  private static void randomSections(int run) {
    due.sentence("Nothing is promised beyond the answers and state changes described above");
    Random random = new Random(run);
    Forged forged = fresh();
    Twin x = forged.x;
    for (int turn = 0; turn < 4; turn++) {
      int[] section = turn == 0 || random.nextInt(4) == 0 ? randomList(random)
          : randomBlock(random);
      if (random.nextInt(12) == 0) {
        section[2 + random.nextInt(section.length - 2)] ^= 1 << random.nextInt(8);
      }
      forged.feedAny(section);
      for (int k = 0; k < 6; k++) {
        x.count(k);
      }
      x.transaction();
      x.held(0);
      x.held(1);
      x.kind(0, 0, 0);
      x.size(0, 0, 0);
      x.read(0, 0, 0, 0);
      x.kind(1, 0, 0);
    }
  }

  private static int any(Random random, int... of) {
    return of[random.nextInt(of.length)];
  }

  private static int[] randomList(Random random) {
    int[] rows = new int[any(random, 0, 3, 3, 3, 4, 6, 6, 6)];
    for (int i = 0; i < rows.length; i++) {
      rows[i] = i % 3 == 0 ? any(random, 0, 1, 2, 3, 4, 5, 5, 14, 48, 49) : any(random, 0, 0, 0, 1);
    }
    int[] list = Forged.list(random.nextInt(65536), rows);
    return any(random, 0, 0, 0, 0, 1) == 0 ? list : Sections.section(58, rows);
  }

  private static int[] randomBlock(Random random) {
    int[] bytes = new int[random.nextInt(6)];
    for (int i = 0; i < bytes.length; i++) {
      bytes[i] = any(random, 0, 1, 1, 2, 3, 7);
    }
    return Forged.block(any(random, 0, 0, 1, 1, 12), any(random, 0, 0, 1), any(random, 0, 0, 0, 1),
        bytes);
  }
}
