import java.util.Random;

/**
 * The receiver's rules for sections that the sender never sends: promises 10 to 19 at their edges.
 * Each answer is held against the model's too.
 */
public final class ForgeryTest {
  private static final Due due = new Due();
  private static final Forger forger = new Forger();
  private static final int LIST = 0;
  private static final int BLOCK = 1;
  private static final int BAD = 2;
  private static final int STRANGE = 3;

  public static void main(String[] args) {
    shortSectionsAreBad();
    checkDecides();
    listsAreToldFromStrangeOnes();
    blocksAreToldFromStrangeOnes();
    listKeepsWhatIsUnchanged();
    lastBlockOfModule();
    blockReplacesBytes();
    gatewayMustBeFirst();
    oddLengthsOfDirectories();
    entryLeadsIntoForgedModule();
    entryLeadsOutOfList();
    moduleCutShort();
    for (int run = 0; run < 300; run++) {
      randomSections(run);
    }
    due.end();
  }

  private static Twin fresh(String label) {
    return new Twin(due, label);
  }

  /** Feeds a section and tells that it, and nothing else, was counted as what is due. */
  private static void feed(Twin twin, String what, int counted, int... section) {
    int[] before = {twin.count(0), twin.count(1), twin.count(2), twin.count(3)};
    forger.feed(twin, section);
    for (int k = 0; k < 4; k++) {
      due.is(what + ": count(" + k + ") grew by", twin.count(k) - before[k], k == counted ? 1 : 0);
    }
  }

  private static int[] list(int transaction, int... rows) {
    int[] inside = new int[3 + rows.length];
    inside[0] = transaction / 256;
    inside[1] = transaction % 256;
    inside[2] = rows.length / 3;
    System.arraycopy(rows, 0, inside, 3, rows.length);
    return Sections.section(59, inside);
  }

  private static int[] block(int module, int version, int number, int... bytes) {
    int[] inside = new int[4 + bytes.length];
    inside[0] = module;
    inside[1] = version / 256;
    inside[2] = version % 256;
    inside[3] = number;
    System.arraycopy(bytes, 0, inside, 4, bytes.length);
    return Sections.section(60, inside);
  }

  private static void shortSectionsAreBad() {
    feed(fresh("short"), "two bytes", BAD, 7, 0);
    feed(fresh("short"), "three bytes", BAD, 59, 1, 9);
    feed(fresh("short"), "five bytes", BAD, 60, 3, 1, 2, 3);
    feed(fresh("short"), "six bytes", STRANGE, Sections.section(7));
    feed(fresh("short"), "six bytes of a list", STRANGE, Sections.section(59));
    feed(fresh("short"), "six bytes of a block", STRANGE, Sections.section(60));
  }

  private static void checkDecides() {
    for (int i = 0; i < 12; i++) {
      if (i != 1) {
        int[] spoilt = list(5, 3, 0, 1);
        spoilt[i] ^= 128;
        feed(fresh("check"), "byte " + i + " is wrong", BAD, spoilt);
      }
    }
  }

  private static void listsAreToldFromStrangeOnes() {
    feed(fresh("list"), "size 1", LIST, list(5, 1, 0, 1));
    feed(fresh("list"), "size 48", LIST, list(5, 48, 0, 1));
    feed(fresh("list"), "size 0", STRANGE, list(5, 0, 0, 1));
    feed(fresh("list"), "size 49", STRANGE, list(5, 49, 0, 1));
    feed(fresh("list"), "two modules", LIST, list(5, 1, 0, 1, 48, 0, 1));
    feed(fresh("list"), "second size 0", STRANGE, list(5, 1, 0, 1, 0, 0, 1));
    feed(fresh("list"), "second size 255", STRANGE, list(5, 1, 0, 1, 255, 0, 1));
    feed(fresh("list"), "no modules", STRANGE, list(5));
    feed(fresh("list"), "eight bytes in all", STRANGE, Sections.section(59, 0, 5));
    feed(fresh("list"), "a row too few", STRANGE, Sections.section(59, 0, 5, 1));
    feed(fresh("list"), "a byte too few", STRANGE, Sections.section(59, 0, 5, 1, 3, 0));
    feed(fresh("list"), "a byte too many", STRANGE, Sections.section(59, 0, 5, 1, 3, 0, 1, 0));
    feed(fresh("list"), "255 modules", STRANGE, Sections.section(59, 0, 5, 255, 3, 0, 1));
    feed(fresh("list"), "tag 58", STRANGE, Sections.section(58, 0, 5, 1, 3, 0, 1));
    feed(fresh("list"), "tag 254", STRANGE, Sections.section(254, 0, 5, 1, 3, 0, 1));

    Twin twin = fresh("strange list");
    feed(twin, "list", LIST, list(65535, 3, 255, 255));
    due.is("highest transaction", twin.transaction(), 65535);
    feed(twin, "strange list", STRANGE, list(5, 0, 0, 1));
    due.is("a strange list changes nothing", twin.transaction(), 65535);
    due.is("a strange list changes nothing", twin.held(0), 0);
  }

  private static void blocksAreToldFromStrangeOnes() {
    feed(fresh("block"), "without a list", STRANGE, block(0, 9, 0, 1, 0, 0));
    refusedBlock("other version", block(0, 8, 0, 1, 0, 0));
    refusedBlock("version's high byte", block(0, 265, 0, 1, 0, 0));
    refusedBlock("module that is not listed", block(1, 9, 0, 1, 0, 0));
    refusedBlock("module 11", block(11, 0, 0, 1, 0, 0));
    refusedBlock("module 12", block(12, 9, 0, 1, 0, 0));
    refusedBlock("module 255", block(255, 9, 0, 1, 0, 0));
    refusedBlock("block 1", block(0, 9, 1, 1, 0, 0));
    refusedBlock("block 255", block(0, 9, 255, 1, 0, 0));
    refusedBlock("too few bytes", block(0, 9, 0, 1, 0));
    refusedBlock("too many bytes", block(0, 9, 0, 1, 0, 0, 0));
    refusedBlock("no bytes", block(0, 9, 0));
    refusedBlock("no block", Sections.section(60, 0, 0, 9));
    refusedBlock("tag 61", Sections.section(61, 0, 0, 9, 0, 1, 0, 0));

    Twin twin = fresh("block");
    feed(twin, "list", LIST, list(5, 3, 0, 9));
    feed(twin, "the block due", BLOCK, block(0, 9, 0, 1, 0, 0));
    due.is("held", twin.held(0), 1);
    due.is("kind", twin.kind(0, 0, 0), 1);
    feed(twin, "once more", BLOCK, block(0, 9, 0, 1, 0, 0));
    due.is("held as before", twin.held(0), 1);
  }

  private static void refusedBlock(String what, int[] section) {
    Twin twin = fresh(what);
    feed(twin, "list", LIST, list(5, 3, 0, 9));
    feed(twin, what, STRANGE, section);
    due.is(what + ": held", twin.held(0), 0);
    due.is(what + ": kind", twin.kind(0, 0, 0), CarouselMount.WAITING);
  }

  private static void listKeepsWhatIsUnchanged() {
    int[][] lists = {
      list(6, 3, 0, 9), list(7, 3, 0, 10), list(7, 3, 1, 9), list(7, 4, 0, 9), list(7, 2, 0, 9),
    };
    int[] stays = {1, 0, 0, 0, 0};
    for (int i = 0; i < lists.length; i++) {
      Twin twin = fresh("relisted");
      feed(twin, "list", LIST, list(5, 3, 0, 9));
      feed(twin, "block", BLOCK, block(0, 9, 0, 1, 0, 0));
      feed(twin, "list", LIST, lists[i]);
      due.is("list " + i + ": held", twin.held(0), stays[i]);
      due.is("list " + i + ": transaction", twin.transaction(), i == 0 ? 6 : 7);
    }
    Twin twin = fresh("no longer listed");
    feed(twin, "two", LIST, list(5, 3, 0, 9, 2, 0, 9));
    feed(twin, "block of the second", BLOCK, block(1, 9, 0, 1, 2));
    due.is("held", twin.held(1), 1);
    feed(twin, "one", LIST, list(6, 3, 0, 9));
    due.is("not listed", twin.held(1), CarouselMount.MISSING);
    feed(twin, "two again", LIST, list(5, 3, 0, 9, 2, 0, 9));
    due.is("nothing is held", twin.held(1), 0);
  }

  private static void lastBlockOfModule() {
    Twin twin = fresh("last block");
    feed(twin, "size 9", LIST, list(5, 9, 0, 9));
    feed(twin, "block 1 with two bytes", STRANGE, block(0, 9, 1, 1, 2));
    feed(twin, "block 1 with one byte", BLOCK, block(0, 9, 1, 1));
    due.is("held", twin.held(0), 1);

    twin = fresh("full blocks");
    feed(twin, "size 8", LIST, list(5, 8, 0, 9));
    feed(twin, "block 1 of one", STRANGE, block(0, 9, 1, 1));
    feed(twin, "block 0 with five bytes", STRANGE, block(0, 9, 0, 1, 2, 3, 4, 5));

    twin = fresh("longest module");
    feed(twin, "size 45", LIST, list(5, 45, 0, 9));
    feed(twin, "block 5 with five bytes", BLOCK, block(0, 9, 5, 1, 2, 3, 4, 5));
    feed(twin, "block 6", STRANGE, block(0, 9, 6, 1));
    due.is("held", twin.held(0), 1);
    due.is("not whole", twin.kind(0, 0, 0), CarouselMount.WAITING);
  }

  private static void blockReplacesBytes() {
    Twin twin = fresh("replaced");
    feed(twin, "list", LIST, list(5, 5, 0, 9));
    feed(twin, "block", BLOCK, block(0, 9, 0, 1, 0, 2, 10, 11));
    due.is("first", twin.read(0, 0, 0, 1), 11);
    feed(twin, "block", BLOCK, block(0, 9, 0, 1, 0, 2, 10, 12));
    due.is("the later bytes count", twin.read(0, 0, 0, 1), 12);
  }

  private static int kindOfGateway(int... module) {
    Twin twin = fresh("gateway");
    feed(twin, "list", LIST, list(5, module.length, 0, 9));
    feed(twin, "block", BLOCK, block(0, 9, 0, module));
    return twin.kind(0, 0, 0);
  }

  private static void gatewayMustBeFirst() {
    due.is("kind 1", kindOfGateway(1, 0, 0), 1);
    due.is("kind 1 with any key", kindOfGateway(1, 9, 0), 1);
    due.is("kind 1, bytes left", kindOfGateway(1, 0, 0, 3), 1);
    due.is("kind 2", kindOfGateway(2, 0, 0), CarouselMount.MISSING);
    due.is("kind 3", kindOfGateway(3, 0, 0), CarouselMount.MISSING);
    due.is("kind 0", kindOfGateway(0, 0, 0), CarouselMount.MISSING);
    due.is("one byte", kindOfGateway(1), CarouselMount.MISSING);
    due.is("two bytes", kindOfGateway(1, 0), CarouselMount.MISSING);
    due.is("its length fits", kindOfGateway(1, 0, 2, 0, 0), 1);
    due.is("its length does not fit", kindOfGateway(1, 0, 3, 0, 0), CarouselMount.MISSING);
    due.is("its length is 255", kindOfGateway(1, 0, 255), CarouselMount.MISSING);
  }

  private static void oddLengthsOfDirectories() {
    Twin twin = fresh("odd length");
    feed(twin, "list", LIST, list(5, 5, 0, 9));
    feed(twin, "block", BLOCK, block(0, 9, 0, 1, 0, 2, 10, 11));
    due.is("no whole entry", twin.size(0, 0, 0), 0);
    due.is("no entry with that name", twin.kind(10, 0, 0), CarouselMount.MISSING);
    due.is("its bytes", twin.read(0, 0, 0, 0), 10);
    due.is("its bytes", twin.read(0, 0, 0, 1), 11);
    due.is("behind its bytes", twin.read(0, 0, 0, 2), CarouselMount.MISSING);
  }

  /** A gateway with the files 7 and 8 in modules 0 and 1, all of it received. */
  private static Twin withTwoModules() {
    Twin twin = fresh("two modules");
    twin.make(0, 7, false);
    twin.make(0, 8, false);
    for (int i = 0; i < 12; i++) {
      twin.append(2, i);
    }
    twin.publish();
    twin.send(30);
    due.is("gateway and the file 7", twin.module(0), 65536 + 14);
    due.is("kind of the file 8", twin.kind(8, 0, 0), 3);
    return twin;
  }

  /** Module 0 stays as it was received; module 1 becomes what is given. */
  private static Twin forgedSecond(int... module) {
    Twin twin = withTwoModules();
    feed(twin, "list", LIST, list(5, 14, 0, 1, module.length, 0, 99));
    due.is("module 0 stays", twin.held(0), 2);
    due.is("module 1 is listed but not whole", twin.kind(8, 0, 0), CarouselMount.WAITING);
    feed(twin, "block", BLOCK, block(1, 99, 0, module));
    return twin;
  }

  private static void entryLeadsIntoForgedModule() {
    due.is("its own kind, not the entry's", forgedSecond(7, 2, 2, 50, 51).kind(8, 0, 0), 7);
    due.is("its size", forgedSecond(7, 2, 2, 50, 51).size(8, 0, 0), 2);
    due.is("its byte", forgedSecond(7, 2, 2, 50, 51).read(8, 0, 0, 1), 51);
    due.is("no directory", forgedSecond(7, 2, 2, 50, 51).kind(8, 50, 0), CarouselMount.MISSING);
    due.is("a gateway there", forgedSecond(1, 2, 0).kind(8, 0, 0), 1);
    due.is("a directory there", forgedSecond(2, 2, 0).kind(8, 0, 0), 2);
    due.is("without entries", forgedSecond(2, 2, 0).kind(8, 1, 0), CarouselMount.MISSING);
    due.is("odd directory", forgedSecond(2, 2, 2, 1, 1).size(8, 0, 0), 0);
    due.is("another key", forgedSecond(3, 1, 0).kind(8, 0, 0), CarouselMount.MISSING);
    due.is("it does not fit", forgedSecond(3, 2, 1).kind(8, 0, 0), CarouselMount.MISSING);
    due.is("none fits", forgedSecond(3, 2).kind(8, 0, 0), CarouselMount.MISSING);
    due.is("one before that does not fit", forgedSecond(3, 1, 9, 3, 2).kind(8, 0, 0),
        CarouselMount.MISSING);
    due.is("the other file", forgedSecond(7, 2, 0).kind(7, 0, 0), 3);
    due.is("no such name", forgedSecond(7, 2, 0).kind(9, 0, 0), CarouselMount.MISSING);
  }

  private static void entryLeadsOutOfList() {
    Twin twin = withTwoModules();
    feed(twin, "list", LIST, list(5, 14, 0, 1));
    due.is("module is not listed", twin.kind(8, 0, 0), CarouselMount.MISSING);
    due.is("module is not listed", twin.size(8, 0, 0), CarouselMount.MISSING);
    due.is("module is not listed", twin.read(8, 0, 0, 0), CarouselMount.MISSING);
    due.is("module is not listed", twin.kind(8, 1, 0), CarouselMount.MISSING);
    due.is("module 0 is", twin.kind(7, 0, 0), 3);
  }

  /** The forged list has version 3, which the publishing behind it brings, but another size. */
  private static Twin cutTo(int size) {
    Twin twin = fresh("cut to " + size);
    feed(twin, "list", LIST, list(5, size, 0, 3));
    for (int key = 1; key < 12; key++) {
      twin.remove(key);
    }
    twin.make(0, 7, true);
    twin.make(1, 5, true);
    twin.make(0, 8, false);
    twin.make(2, 1, false);
    due.is("publish", twin.publish(), 3);
    due.is("gateway and the directory 7", twin.module(0), 65536 * 3 + 18);
    twin.lose(1);
    twin.send(3);
    return twin;
  }

  private static void moduleCutShort() {
    Twin twin = cutTo(8);
    due.is("one block", twin.held(0), 1);
    due.is("the gateway does not fit", twin.kind(0, 0, 0), CarouselMount.MISSING);
    twin = cutTo(16);
    due.is("two blocks", twin.held(0), 2);
    due.is("the gateway fits", twin.size(0, 0, 0), 2);
    due.is("the directory does not fit", twin.kind(7, 0, 0), CarouselMount.MISSING);
    due.is("module 1 is not listed", twin.kind(8, 0, 0), CarouselMount.MISSING);
    twin = cutTo(24);
    due.is("two blocks of three", twin.held(0), 2);
    due.is("waiting for the third", twin.kind(0, 0, 0), CarouselMount.WAITING);
  }

  private static void randomSections(int run) {
    Random random = new Random(run);
    Twin twin = run % 2 == 0 ? withTwoModules() : fresh("random " + run);
    int feeds = run % 2 == 0 ? 3 : 4;
    for (int turn = 0; turn < feeds; turn++) {
      int[] section = turn == 0 || random.nextInt(4) == 0 ? randomList(random) : randomBlock(random);
      if (random.nextInt(12) == 0) {
        section[2 + random.nextInt(section.length - 2)] ^= 1 << random.nextInt(8);
      }
      forger.feed(twin, section);
      for (int k = 0; k < 6; k++) {
        twin.count(k);
      }
      twin.transaction();
      twin.held(0);
      twin.held(1);
      twin.kind(0, 0, 0);
      twin.size(0, 0, 0);
      twin.read(0, 0, 0, 0);
      twin.kind(7, 0, 0);
      twin.kind(8, 0, 0);
      twin.read(8, 0, 0, 0);
    }
  }

  private static int any(Random random, int... of) {
    return of[random.nextInt(of.length)];
  }

  private static int[] randomList(Random random) {
    int[] rows = new int[any(random, 0, 3, 3, 3, 4, 6, 6, 6)];
    for (int i = 0; i < rows.length; i++) {
      rows[i] = i % 3 == 0 ? any(random, 0, 1, 2, 3, 4, 5, 5, 14, 48, 49) : any(random, 0, 0, 0, 1);
    }
    int[] list = list(random.nextInt(65536), rows);
    return any(random, 0, 0, 0, 0, 1) == 0 ? list : Sections.section(58, rows);
  }

  private static int[] randomBlock(Random random) {
    int[] bytes = new int[random.nextInt(6)];
    for (int i = 0; i < bytes.length; i++) {
      bytes[i] = any(random, 0, 1, 1, 2, 3, 7);
    }
    return block(any(random, 0, 0, 1, 1, 12), any(random, 0, 0, 1), any(random, 0, 0, 0, 1), bytes);
  }
}
