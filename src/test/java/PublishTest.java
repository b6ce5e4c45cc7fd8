import java.util.Arrays;

/** Promises 6 to 8, sentence by sentence: publish, modules, module, and what is published. */
public final class PublishTest {
  private static final int MISSING = CarouselMount.MISSING;
  private static final Due due = new Due();

  public static void main(String[] args) {
    changesWaitForPublish();
    publishTakesTreeAsItIs();
    publishAnswersTransaction();
    transactionIsPair();
    orderIsByNames();
    orderOfDeepestTree();
    messagesOfAllLengths();
    filesOfNoneToTwelveBytes();
    messagesShareModuleUpToTwentyFour();
    laterModulesAreSharedToo();
    messageLongerThanTwentyFour();
    versionOfSameBytes();
    versionOfOtherBytes();
    versionOfOtherLength();
    versionOfNumberThatWasNot();
    versionOfSameBytesElsewhere();
    blocksOfEightBytes();
    modulesOfLatestPublishing();
    moduleAnswersVersionAndSize();
    moduleRefusesNumbersOutOfRange();
    due.end();
  }

  private static Twin fresh() {
    return new Twin(due);
  }

  private static Twin files(int... lengths) {
    return Trees.files(due, lengths);
  }

  private static void sizes(String what, Twin x, int... want) {
    due.is(what + ": modules()", x.modules(), want.length);
    for (int m = 0; m < want.length; m++) {
      due.is(what + ": size of module " + m, x.module(m) & 65535, want[m]);
    }
  }

  private static void changesWaitForPublish() {
    due.sentence("Changes of the tree are not broadcast before publish().");
    Twin x = files(0);
    int[] packet = x.nextPacket();
    x.append(1, 77);
    x.make(0, 2, true);
    due.is("module(0)", x.module(0), 65536 + 10);
    due.isTrue("next packet", Arrays.equals(packet, x.nextPacket()));
    x.send(10);
    due.is("file is empty", x.size(1, 0, 0), 0);
    due.is("directory is not there", x.kind(2, 0, 0), MISSING);
    x.publish();
    x.send(10);
    due.is("file", x.read(1, 0, 0, 0), 77);
    due.is("directory", x.kind(2, 0, 0), 2);
    x.empty(1);
    x.remove(2);
    x.send(10);
    due.is("file is as published", x.read(1, 0, 0, 0), 77);
    due.is("directory is as published", x.kind(2, 0, 0), 2);
  }

  private static void publishTakesTreeAsItIs() {
    due.sentence("Publishes the tree as it is and answers the transaction.");
    Twin x = fresh();
    due.is("the gateway alone", x.publish(), 1);
    sizes("the gateway alone", x, 3);
    x.make(0, 1, false);
    x.append(1, 9);
    x.remove(1);
    due.is("a file that came and went", x.publish(), 2);
    due.is("is not there, so the bytes are the same", x.module(0), 65536 + 3);
    x.make(0, 1, true);
    x.make(1, 1, false);
    x.append(2, 8);
    due.is("a directory and a file in it", x.publish(), 3);
    sizes("a directory and a file in it", x, 18);
    due.is("as it is", x.publish(), 4);
    sizes("as it is", x, 18);
  }

  private static void publishAnswersTransaction() {
    due.sentence("The TRANSACTION is 1 for the first publishing and 1 more for each next one.");
    Twin x = fresh();
    due.is("first", x.publish(), 1);
    due.is("second, nothing was changed or sent", x.publish(), 2);
    x.send(64);
    due.is("third", x.publish(), 3);
    x.retune();
    x.make(0, 0, false);
    due.is("fourth", x.publish(), 4);
  }

  private static void transactionIsPair() {
    due.sentence("A PAIR is two bytes, the first times 256 plus the second.");
    Twin x = fresh();
    for (int t = 1; t <= 255; t++) {
      x.publish();
    }
    due.is("high byte of 255", x.peek(5), 0);
    due.is("low byte of 255", x.peek(6), 255);
    x.send(1);
    due.is("transaction()", x.transaction(), 255);
    x.make(0, 1, false);
    due.is("publish()", x.publish(), 256);
    due.is("module(0)", x.module(0), 65536 * 256 + 10);
    due.is("high byte of 256", x.peek(5), 1);
    due.is("low byte of 256", x.peek(6), 0);
    due.is("high byte of the version", x.peek(9), 1);
    due.is("low byte of the version", x.peek(10), 0);
    x.send(1);
    due.is("transaction()", x.transaction(), 256);
    x.publish();
    due.is("version stays", x.module(0), 65536 * 256 + 10);
    x.send(10);
    due.is("transaction()", x.transaction(), 257);
    due.is("blocks of version 256 are taken", x.held(0), 2);
  }

  /** Made in another order than by names; a name above 127 tells signed bytes apart. */
  private static Twin byNames() {
    Twin x = fresh();
    x.make(0, 255, false);
    x.make(0, 128, true);
    x.make(2, 9, false);
    x.make(0, 1, true);
    x.make(4, 200, false);
    x.make(4, 2, true);
    x.make(0, 127, false);
    x.publish();
    return x;
  }

  private static void orderIsByNames() {
    due.sentence("the gateway, then its entries by their names, the least first, each directory"
        + " followed in the same way by its entries before the next one");
    due.bytes("module 0", Broadcast.module(PublishTest::byNames, 0),
        1, 0, 16, 1, 2, 1, 4, 127, 3, 1, 7, 128, 2, 2, 2, 255, 3, 2, 1);
    due.bytes("module 1", Broadcast.module(PublishTest::byNames, 1),
        2, 4, 8, 2, 2, 1, 6, 200, 3, 1, 5, 2, 6, 0, 3, 5, 0, 3, 7, 0);
    due.bytes("module 2", Broadcast.module(PublishTest::byNames, 2),
        2, 2, 4, 9, 3, 2, 3, 3, 3, 0, 3, 1, 0);
  }

  /** Each directory lies in the one before. */
  private static Twin chain() {
    Twin x = fresh();
    for (int key = 1; key < 12; key++) {
      x.make(key - 1, 1, true);
    }
    x.publish();
    return x;
  }

  private static void orderOfDeepestTree() {
    due.sentence("each directory followed in the same way by its entries before the next one");
    sizes("eleven directories", chain(), 21, 21, 21, 17);
    due.bytes("module 0", Broadcast.module(PublishTest::chain, 0),
        1, 0, 4, 1, 2, 0, 1, 2, 1, 4, 1, 2, 0, 2, 2, 2, 4, 1, 2, 1, 3);
    due.bytes("module 3", Broadcast.module(PublishTest::chain, 3),
        2, 9, 4, 1, 2, 3, 10, 2, 10, 4, 1, 2, 3, 11, 2, 11, 0);
  }

  private static void messagesOfAllLengths() {
    due.sentence("for a file its bytes, for a directory four for each entry, by their names: name,"
        + " kind, number of the module it lies in, key");
    due.bytes("no entry", Broadcast.module(PublishTest::files, 0), 1, 0, 0);
    due.bytes("one entry, no byte", Broadcast.module(() -> files(0), 0),
        1, 0, 4, 1, 3, 0, 1, 3, 1, 0);
    due.bytes("one entry, twelve bytes", Broadcast.module(() -> files(12), 0),
        1, 0, 4, 1, 3, 0, 1, 3, 1, 12, 1, 1, 1, 1, 1, 1, 1, 1, 1, 1, 1, 1);
    int[] most = Broadcast.module(() -> files(12, 12, 12, 12, 12, 12, 12, 12, 12, 12, 12), 0);
    due.is("eleven entries", most.length, 47);
    due.bytes("first entry", Arrays.copyOfRange(most, 0, 7), 1, 0, 44, 1, 3, 1, 1);
    due.bytes("last entry", Arrays.copyOfRange(most, 43, 47), 11, 3, 11, 11);
  }

  private static void filesOfNoneToTwelveBytes() {
    due.sentence("A file has up to 12 bytes.");
    for (int length = 0; length <= 12; length++) {
      Twin x = files(length);
      x.send(10);
      due.is(length + " bytes: size", x.size(1, 0, 0), length);
      for (int i = 0; i < 13; i++) {
        due.is(length + " bytes: byte " + i, x.read(1, 0, 0, i), i < length ? 1 : MISSING);
      }
    }
  }

  private static void messagesShareModuleUpToTwentyFour() {
    due.sentence("into the latest module if that then has at most 24 bytes, otherwise into a new"
        + " one");
    sizes("23 bytes", files(6, 0), 23);
    sizes("24 bytes", files(7, 0), 24);
    sizes("25 bytes", files(8, 0), 22, 3);
    sizes("24 bytes of four messages", files(0, 0, 0), 24);
    sizes("25 bytes, the last one is longer", files(0, 0, 1), 21, 4);
    sizes("25 bytes, the first one is longer", files(1, 0, 0), 22, 3);
    due.is("the last entry's module for 24", Broadcast.module(() -> files(7, 0), 0)[9], 0);
    due.is("the last entry's module for 25", Broadcast.module(() -> files(8, 0), 0)[9], 1);
  }

  private static void laterModulesAreSharedToo() {
    due.sentence("into the latest module if that then has at most 24 bytes, otherwise into a new"
        + " one");
    sizes("24 bytes in module 1", files(5, 5, 5, 0, 0, 0), 27, 24, 9);
    sizes("25 bytes in module 1", files(5, 5, 6, 0, 0, 0), 27, 16, 18);
    sizes("only the latest one is filled up", files(12, 12, 0, 12, 0), 23, 15, 18, 18);
  }

  private static void messageLongerThanTwentyFour() {
    due.sentence("otherwise into a new one");
    sizes("gateway of 23 bytes", files(0, 0, 0, 0, 0), 23, 15);
    sizes("gateway of 27 bytes", files(0, 0, 0, 0, 0, 0), 27, 18);
    sizes("gateway of 47 bytes", files(0, 0, 0, 0, 0, 0, 0, 0, 0, 0, 0), 47, 24, 9);
    Twin x = fresh();
    x.make(0, 1, true);
    for (int name = 1; name <= 10; name++) {
      x.make(1, name, false);
    }
    x.publish();
    sizes("directory of 43 bytes", x, 7, 43, 24, 6);
  }

  private static void versionOfSameBytes() {
    due.sentence("when the publishing before had a module of that number with the very same bytes,"
        + " it is the version of that one");
    Twin x = files(12, 3);
    due.is("first: module(0)", x.module(0), 65536 + 11);
    due.is("first: module(1)", x.module(1), 65536 + 21);
    x.publish();
    due.is("nothing changed: module(0)", x.module(0), 65536 + 11);
    due.is("nothing changed: module(1)", x.module(1), 65536 + 21);
    x.remove(2);
    Trees.file(x, 2, 3);
    x.publish();
    due.is("the same again: module(0)", x.module(0), 65536 + 11);
    due.is("the same again: module(1)", x.module(1), 65536 + 21);
    x.empty(2);
    x.append(2, 9);
    x.publish();
    due.is("module(0) has the same bytes", x.module(0), 65536 + 11);
    due.is("module(1) has not", x.module(1), 65536 * 4 + 19);
    x.publish();
    due.is("module(0) two later", x.module(0), 65536 + 11);
    due.is("module(1) one later", x.module(1), 65536 * 4 + 19);
  }

  private static void versionOfOtherBytes() {
    due.sentence("The VERSION of a module is the transaction of this publishing");
    Twin x = files(0, 0, 0, 0, 0, 0);
    x.remove(1);
    x.make(0, 1, true);
    x.publish();
    due.is("a byte in the midst differs", x.module(0), 65536 * 2 + 27);
    due.is("the first byte differs", x.module(1), 65536 * 2 + 18);
    x.remove(6);
    x.make(0, 6, true);
    x.publish();
    due.is("a byte in the midst differs", x.module(0), 65536 * 3 + 27);
    due.is("a byte in the midst differs", x.module(1), 65536 * 3 + 18);
    Twin y = files(1);
    y.empty(1);
    y.append(1, 129);
    y.publish();
    due.is("the highest bit of the last byte differs", y.module(0), 65536 * 2 + 11);
    y.empty(1);
    y.append(1, 1);
    y.publish();
    due.is("as in the one before the one before", y.module(0), 65536 * 3 + 11);
  }

  private static void versionOfOtherLength() {
    due.sentence("with the very same bytes");
    Twin x = files(8, 2);
    due.is("module(1)", x.module(1), 65536 + 5);
    x.append(2, 2);
    x.publish();
    due.is("longer by one", x.module(1), 65536 * 2 + 6);
    x.empty(2);
    x.append(2, 2);
    x.append(2, 2);
    x.publish();
    due.is("shorter by one", x.module(1), 65536 * 3 + 5);
    x.append(2, 2);
    x.publish();
    due.is("longer by one again", x.module(1), 65536 * 4 + 6);
    x.make(0, 3, false);
    x.publish();
    due.is("module(1)", x.module(1), 65536 * 5 + 20);
    x.make(0, 4, false);
    x.publish();
    due.is("longer by a message behind the same ones", x.module(1), 65536 * 6 + 23);
    x.remove(4);
    x.publish();
    due.is("shorter by a message behind the same ones", x.module(1), 65536 * 7 + 20);
    x.make(0, 4, false);
    x.publish();
    due.is("longer by that message again", x.module(1), 65536 * 8 + 23);
  }

  private static void versionOfNumberThatWasNot() {
    due.sentence("when the publishing before had a module of that number");
    Twin x = files(12, 12);
    due.is("modules()", x.modules(), 3);
    x.remove(2);
    x.publish();
    due.is("modules() then", x.modules(), 1);
    Trees.file(x, 2, 12);
    x.publish();
    due.is("module(1)", x.module(1), 65536 * 3 + 15);
    due.is("module(2)", x.module(2), 65536 * 3 + 15);
  }

  private static void versionOfSameBytesElsewhere() {
    due.sentence("a module of that number");
    Twin x = files(12, 12, 12);
    sizes("three files", x, 15, 15, 15, 15);
    x.remove(1);
    x.publish();
    sizes("two files", x, 11, 15, 15);
    due.is("the bytes that module 2 had", x.module(1), 65536 * 2 + 15);
    due.is("the bytes that module 3 had", x.module(2), 65536 * 2 + 15);
  }

  private static void blocks(String what, Broadcast.Source source, int m, int... lengths) {
    int next = 0;
    for (int[] section : Broadcast.sections(source)) {
      if (section[0] == 60 && section[2] == m) {
        due.is(what + ": number of the block", section[5], next);
        due.is(what + ": bytes of block " + next, section.length - 10,
            next < lengths.length ? lengths[next] : 0);
        next++;
      }
    }
    due.is(what + ": blocks", next, lengths.length);
  }

  private static void blocksOfEightBytes() {
    due.sentence("A module is cut into BLOCKS 0, 1, .. of eight bytes, the last one perhaps"
        + " shorter.");
    blocks("3 bytes", PublishTest::files, 0, 3);
    blocks("7 bytes", () -> files(12, 2, 4), 2, 7);
    blocks("8 bytes", () -> files(12, 2, 5), 2, 8);
    blocks("9 bytes", () -> files(12, 2, 6), 2, 8, 1);
    blocks("15 bytes", () -> files(5), 0, 8, 7);
    blocks("16 bytes", () -> files(6), 0, 8, 8);
    blocks("17 bytes", () -> files(7), 0, 8, 8, 1);
    blocks("24 bytes", () -> files(7, 0), 0, 8, 8, 8);
    blocks("27 bytes", () -> files(0, 0, 0, 0, 0, 0), 0, 8, 8, 8, 3);
    blocks("47 bytes", () -> files(0, 0, 0, 0, 0, 0, 0, 0, 0, 0, 0), 0, 8, 8, 8, 8, 8, 7);
  }

  private static void modulesOfLatestPublishing() {
    due.sentence("How many modules the latest publishing has; 0 when there was none.");
    Twin x = fresh();
    due.is("none", x.modules(), 0);
    x.make(0, 1, false);
    due.is("none yet", x.modules(), 0);
    x.publish();
    due.is("the fewest", x.modules(), 1);
    for (int key = 1; key < 12; key++) {
      x.make(0, key, false);
      for (int i = 0; i < 12; i++) {
        x.append(key, i);
      }
    }
    due.is("not before publish()", x.modules(), 1);
    x.publish();
    due.is("the most", x.modules(), 12);
    for (int key = 11; key > 1; key--) {
      x.remove(key);
    }
    x.publish();
    due.is("fewer again", x.modules(), 1);
    x.retune();
    due.is("the receiver does not matter", x.modules(), 1);
  }

  private static void moduleAnswersVersionAndSize() {
    due.sentence("Module m of the latest publishing: 65536 * its version + its size");
    Twin x = files(12, 12, 12, 12, 12, 12, 12, 12, 12, 12, 12);
    due.is("module(0)", x.module(0), 65536 + 47);
    for (int m = 1; m < 12; m++) {
      due.is("module(" + m + ")", x.module(m), 65536 + 15);
    }
    x.empty(11);
    due.is("before publish()", x.module(11), 65536 + 15);
    x.publish();
    due.is("module(11)", x.module(11), MISSING);
    due.is("the last file joins the one before", x.module(10), 65536 * 2 + 18);
    due.is("module(9) is as before", x.module(9), 65536 + 15);
  }

  private static void moduleRefusesNumbersOutOfRange() {
    due.sentence("MISSING when there is no such module");
    Twin none = fresh();
    for (int m : new int[] {Integer.MIN_VALUE, -1, 0, 1, 11, 12, Integer.MAX_VALUE}) {
      due.is("nothing published: module(" + m + ")", none.module(m), MISSING);
    }
    Unchanged two = new Unchanged(due, () -> files(12, 3));
    two.by("module(1) of two", x -> x.module(1), 65536 + 21);
    for (int m : Edges.outside(0, 1)) {
      two.by("module(" + m + ") of two", x -> x.module(m), MISSING);
    }
    two.by("module(11) of two", x -> x.module(11), MISSING);
    Twin twelve = files(12, 12, 12, 12, 12, 12, 12, 12, 12, 12, 12);
    due.is("module(11) of twelve", twelve.module(11), 65536 + 15);
    for (int m : Edges.outside(0, 11)) {
      due.is("module(" + m + ") of twelve", twelve.module(m), MISSING);
    }
    for (int key = 11; key > 0; key--) {
      twelve.remove(key);
    }
    twelve.publish();
    due.is("module(1), which the publishing before had", twelve.module(1), MISSING);
  }
}
