import java.util.Arrays;

/** Promises 10 to 16 at the receiver, sentence by sentence: packets, sections, counts, retune. */
public final class ReceiverTest {
  private static final int BAD = CarouselMount.BAD;
  private static final int MISSING = CarouselMount.MISSING;
  private static final int WAITING = CarouselMount.WAITING;
  private static final Due due = new Due();

  public static void main(String[] args) {
    firstByteDecides();
    controlBitsDecide();
    ignoredPacketLeavesSectionAlone();
    counterOfIgnoredPacketIsNotKept();
    counterMustBeOneMore();
    zeroFollowsFifteen();
    gapWithoutSectionThrowsNothingAway();
    gapDoesNotEndThePacket();
    firstPacketMayHaveAnyCounter();
    packetThatIsNoStartIsAdded();
    packetThatIsNoStartIsPassedOver();
    pointerAboveThirteen();
    pointerAtThirteen();
    pointerMustCompleteSection();
    sectionsBeginBehindPointer();
    fillEndsPacket();
    lengthZero();
    lengthTwoHundredFiftyFive();
    sectionThatEndsWithPacket();
    completeSectionIsLookedAtAtOnce();
    wrongCheckIsBad();
    listsAreCounted();
    newListKeepsUnchangedModules();
    newListGoesThroughTwelveNumbers();
    blocksAreCountedEachTime();
    blocksOfOtherVersionsAreStrange();
    eachCountCountsItsOwn();
    retuneForgetsAll();
    retuneLeavesSenderAlone();
    countRefuses();
    transactionWithoutList();
    heldCountsBlocks();
    heldRefuses();
    due.end();
  }

  private static Twin fresh() {
    return new Twin(due);
  }

  private static Twin files(int... lengths) {
    return Trees.files(due, lengths);
  }

  /**
   * A list of 12 bytes and a block of 13, in two packets: a start that has the list and the
   * block's first byte, then one that is no start, with the block's other twelve and two of fill.
   */
  private static Twin small() {
    return files();
  }

  /**
   * A list of 12 bytes and blocks of 18 and 12, in four packets: a start that has the list and one
   * byte of the first block; 14 of it; a start with its last 3 and ten of the second block; the
   * other two of that, and fill.
   */
  private static Twin oneFile() {
    return files(0);
  }

  private static void counts(String what, Twin x, int... want) {
    for (int k = 0; k < 6; k++) {
      due.is(what + ": count(" + k + ")", x.count(k), want[k]);
    }
  }

  private static void firstByteDecides() {
    due.sentence("A packet that reaches it is IGNORED when its first byte is not 71");
    for (int first = 0; first < 256; first++) {
      Twin x = small();
      x.spoil(0, first ^ 71);
      counts("first byte " + first, x, first == 71 ? 1 : 0, 0, 0, 0, 0, first == 71 ? 0 : 1);
      due.is("first byte " + first, x.transaction(), first == 71 ? 1 : MISSING);
    }
  }

  private static void controlBitsDecide() {
    due.sentence("or its control byte has one of the bits 128, 32, 16");
    for (int bits = 0; bits < 256; bits++) {
      Twin x = small();
      x.spoil(1, bits);
      boolean ignored = (bits & 128) != 0 || (bits & 32) != 0 || (bits & 16) != 0;
      boolean list = !ignored && (bits & 64) == 0;
      counts("control byte ^ " + bits, x, list ? 1 : 0, 0, 0, 0, 0, ignored ? 1 : 0);
    }
  }

  private static void ignoredPacketLeavesSectionAlone() {
    due.sentence("A packet that reaches it is IGNORED");
    Twin x = small();
    x.send(1);
    x.spoil(0, 1);
    counts("the block is still collected", x, 1, 0, 0, 0, 0, 1);
    x.lose(15);
    due.is("sixteen packets later", x.peek(1), 1);
    x.send(1);
    counts("the block is complete", x, 1, 1, 0, 0, 0, 1);
  }

  private static void counterOfIgnoredPacketIsNotKept() {
    due.sentence("when a packet reached it before that was not ignored, and the counter is not 1"
        + " more than that one's");
    Twin x = small();
    x.send(1);
    x.spoil(1, 16);
    counts("the block's other half is ignored", x, 1, 0, 0, 0, 0, 1);
    x.send(1);
    counts("2 does not follow 0", x, 2, 0, 0, 0, 1, 1);
    Twin y = small();
    y.send(1);
    y.spoil(0, 2);
    y.lose(1);
    due.is("the third packet behind", y.peek(1), 3);
    y.spoil(1, 3 ^ 1);
    counts("1 follows 0, for the ignored one does not count", y, 1, 1, 0, 0, 0, 1);
  }

  private static void counterMustBeOneMore() {
    due.sentence("and the counter is not 1 more than that one's (0 after 15), the section it is"
        + " collecting, if any, is thrown away");
    for (int lost = 0; lost < 36; lost++) {
      Twin x = small();
      x.send(1);
      x.lose(lost);
      boolean follows = lost % 16 == 0;
      boolean list = lost % 2 == 1;
      x.send(1);
      counts(lost + " lost", x, list ? 2 : 1, follows ? 1 : 0, 0, 0, follows ? 0 : 1, 0);
    }
    for (int counter = 0; counter < 16; counter++) {
      Twin x = small();
      x.send(1);
      x.spoil(1, 1 ^ counter);
      boolean follows = counter == 1;
      counts(counter + " behind 0", x, 1, follows ? 1 : 0, 0, 0, follows ? 0 : 1, 0);
    }
  }

  private static void zeroFollowsFifteen() {
    due.sentence("(0 after 15)");
    for (int counter = 0; counter < 16; counter++) {
      Twin x = small();
      x.lose(15);
      x.publish();
      due.is("the list's packet", x.peek(1), 64 + 15);
      x.send(1);
      due.is("the block's packet", x.peek(1), 0);
      x.spoil(1, counter);
      boolean follows = counter == 0;
      counts(counter + " behind 15", x, 1, follows ? 1 : 0, 0, 0, follows ? 0 : 1, 0);
    }
    Twin x = small();
    x.lose(14);
    x.send(1);
    x.lose(1);
    x.publish();
    x.send(1);
    counts("0 does not follow 14", x, 2, 0, 0, 0, 1, 0);
  }

  private static void gapWithoutSectionThrowsNothingAway() {
    due.sentence("the section it is collecting, if any, is thrown away");
    Twin x = small();
    x.send(2);
    counts("nothing is collected", x, 1, 1, 0, 0, 0, 0);
    x.lose(1);
    x.send(1);
    counts("gap before a packet that is no start", x, 1, 1, 0, 0, 0, 0);
    x.lose(2);
    x.send(1);
    counts("gap before a start", x, 2, 1, 0, 0, 0, 0);
    x.lose(1);
    x.send(1);
    counts("gap with a section", x, 3, 1, 0, 0, 1, 0);
  }

  private static void gapDoesNotEndThePacket() {
    due.sentence("Then, when the packet is no start");
    Twin x = small();
    x.send(1);
    x.lose(1);
    x.send(1);
    counts("the start behind a gap brings its list", x, 2, 0, 0, 0, 1, 0);
    x.send(1);
    counts("and begins a block", x, 2, 1, 0, 0, 1, 0);
    Twin y = small();
    y.send(1);
    y.lose(2);
    y.send(1);
    counts("what is no start is passed over", y, 1, 0, 0, 0, 1, 0);
    y.send(2);
    counts("its counter is the one that the next follows", y, 2, 1, 0, 0, 1, 0);
  }

  private static void firstPacketMayHaveAnyCounter() {
    due.sentence("when a packet reached it before that was not ignored");
    for (int lost = 0; lost < 16; lost++) {
      Twin x = small();
      x.lose(lost);
      x.publish();
      x.send(2);
      counts("first counter " + lost, x, 1, 1, 0, 0, 0, 0);
    }
  }

  private static void packetThatIsNoStartIsAdded() {
    due.sentence("when the packet is no start: its last 14 bytes are added to the section that is"
        + " being collected, until that is complete");
    Twin x = oneFile();
    x.send(2);
    counts("15 bytes of 18", x, 1, 0, 0, 0, 0, 0);
    x.send(1);
    counts("18 bytes of 18", x, 1, 1, 0, 0, 0, 0);
    x.send(1);
    counts("two bytes of 14 complete the last block", x, 1, 2, 0, 0, 0, 0);
    Twin y = files(12, 12);
    y.send(8);
    int taken = y.count(1);
    due.is("a section's last 14 bytes are to come", y.peek(1), 8);
    y.send(1);
    due.is("the last of the 14 completes the block", y.count(1), taken + 1);
  }

  private static void packetThatIsNoStartIsPassedOver() {
    due.sentence("without one, and behind its end, they are passed over");
    Twin x = small();
    x.lose(1);
    x.send(1);
    counts("without a section", x, 0, 0, 0, 0, 0, 0);
    x.spoil(1, 64);
    counts("a list in a packet that says it is no start", x, 0, 0, 0, 0, 0, 0);
    x.send(1);
    counts("nothing had begun", x, 0, 0, 0, 0, 0, 0);
    Twin y = small();
    y.send(1);
    y.spoil(2, 11);
    counts("behind a section of two bytes", y, 1, 0, 1, 0, 0, 0);
    y.send(2);
    counts("nothing had begun", y, 2, 1, 1, 0, 0, 0);
    for (int i = 14; i < 16; i++) {
      Twin z = small();
      z.send(1);
      z.spoil(i, 255 ^ 60);
      counts("no section begins at byte " + i, z, 1, 1, 0, 0, 0, 0);
      z.publish();
      z.send(1);
      counts("nothing is thrown away", z, 2, 1, 0, 0, 0, 0);
    }
  }

  private static void pointerAboveThirteen() {
    due.sentence("When it is a start, and its third byte p is above 13, the section is thrown away"
        + " and nothing more happens");
    for (int p : new int[] {14, 15, 16, 127, 128, 255}) {
      Twin x = small();
      x.spoil(2, p);
      counts("p = " + p + ", no section", x, 0, 0, 0, 0, 0, 0);
      x.send(1);
      counts("p = " + p + ", nothing began", x, 0, 0, 0, 0, 0, 0);
      x.send(2);
      counts("p = " + p + ", then as ever", x, 1, 1, 0, 0, 0, 0);

      Twin y = oneFile();
      y.send(2);
      y.spoil(2, 3 ^ p);
      counts("p = " + p + ", a block", y, 1, 0, 0, 0, 1, 0);
      y.send(1);
      counts("p = " + p + ", nothing began", y, 1, 0, 0, 0, 1, 0);
      y.lose(1);
      y.send(1);
      counts("p = " + p + ", it is thrown away once", y, 1, 0, 0, 0, 1, 0);

      Twin z = oneFile();
      z.send(2);
      z.lose(4);
      z.spoil(2, 3 ^ p);
      counts("p = " + p + " behind a gap, thrown away once", z, 1, 0, 0, 0, 1, 0);
    }
    Twin x = oneFile();
    x.send(1);
    due.is("the block's length stands where a start has its p", x.peek(2), 16);
    x.spoil(1, 64);
    counts("made a start", x, 1, 0, 0, 0, 1, 0);
    x.send(1);
    due.is("its counter is the one that the next follows", x.count(4), 1);
  }

  private static void pointerAtThirteen() {
    due.sentence("its third byte p is above 13");
    Twin x = small();
    x.spoil(2, 13);
    counts("p = 13, no section", x, 0, 0, 0, 0, 0, 0);
    x.send(1);
    counts("p = 13, nothing began", x, 0, 0, 0, 0, 0, 0);
    x.spoil(2, 12);
    counts("p = 12, the last byte begins a block", x, 0, 0, 0, 0, 0, 0);
    x.send(1);
    counts("p = 12, for which no list is there", x, 0, 0, 0, 1, 0, 0);

    Twin y = oneFile();
    y.send(2);
    y.spoil(2, 3 ^ 13);
    counts("p = 13, three of them complete the block", y, 1, 1, 0, 0, 0, 0);
    y.send(1);
    counts("p = 13, the next block did not begin", y, 1, 1, 0, 0, 0, 0);

    Twin z = small();
    z.send(1);
    z.publish();
    due.is("where the block's length is due", z.peek(3), 59);
    z.spoil(2, 13);
    counts("p = 13, the block is not complete", z, 1, 0, 0, 0, 1, 0);

    Twin w = small();
    w.send(1);
    w.publish();
    w.spoil(2, 14);
    counts("p = 14, the same, by the other rule", w, 1, 0, 0, 0, 1, 0);

    for (int left = 0; left < 20; left++) {
      Twin v = small();
      v.spoil(4, 10 ^ 11 + left);
      v.publish();
      v.spoil(2, 13);
      due.is("p = 13, " + left + " bytes are missing: bad", v.count(2), left > 13 ? 0 : 1);
      due.is("p = 13, " + left + " bytes are missing: thrown away", v.count(4), left > 13 ? 1 : 0);
    }
  }

  private static void pointerMustCompleteSection() {
    due.sentence("otherwise the next p bytes are added to the section in the same way, and if it is"
        + " not complete then, it is thrown away");
    for (int p = 0; p < 14; p++) {
      Twin x = oneFile();
      x.send(2);
      due.is("bytes left of the block", x.peek(2), 3);
      x.spoil(2, 3 ^ p);
      due.is("p = " + p + ": taken", x.count(1), p < 3 ? 0 : 1);
      due.is("p = " + p + ": thrown away", x.count(4), p < 3 ? 1 : 0);
      Twin y = small();
      y.spoil(2, p);
      due.is("p = " + p + ": without a section none is thrown away", y.count(4), 0);
    }
    Twin x = small();
    x.send(1);
    x.publish();
    x.send(1);
    counts("p = 0: a section of one byte is thrown away", x, 2, 0, 0, 0, 1, 0);
    x.send(1);
    counts("p = 0: a new one begins", x, 2, 1, 0, 0, 1, 0);
  }

  private static void sectionsBeginBehindPointer() {
    due.sentence("from the byte behind them on, sections begin one right behind the other");
    Twin x = files(3, 7);
    x.send(6);
    int taken = x.count(1);
    due.is("a start with one byte of a block", x.peek(2), 1);
    due.is("and a block of 12 bytes", x.peek(5), 10);
    x.send(1);
    due.is("both are taken", x.count(1), taken + 2);
    x.lose(1);
    x.send(1);
    due.is("nothing is left to be thrown away", x.count(4), 0);

    Twin y = oneFile();
    y.send(2);
    y.spoil(2, 3 ^ 4);
    // The next block's first byte is passed over; 10 0, then 0 1 1, then 1 0 are sections.
    counts("p = 4: three more begin and end", y, 1, 1, 3, 0, 0, 0);
  }

  private static void fillEndsPacket() {
    due.sentence("where 255 stands in place of a section's first byte, the rest of the packet is"
        + " passed over");
    Twin x = small();
    x.spoil(3, 59 ^ 255);
    counts("255 in place of the first byte", x, 0, 0, 0, 0, 0, 0);
    x.send(1);
    counts("the rest was passed over", x, 0, 0, 0, 0, 0, 0);
    x.spoil(3, 59 ^ 254);
    counts("254 is no fill", x, 0, 0, 1, 0, 0, 0);
    x.send(1);
    counts("the block behind it began", x, 0, 0, 1, 1, 0, 0);
    x.spoil(15, 60 ^ 255);
    counts("255 in place of the last byte", x, 1, 0, 1, 1, 0, 0);
    x.send(1);
    counts("no block began", x, 1, 0, 1, 1, 0, 0);
    x.spoil(4, 10 ^ 255);
    counts("255 in place of the second byte is a length", x, 1, 0, 1, 1, 0, 0);
    x.lose(1);
    x.send(1);
    counts("a section was collected", x, 2, 0, 1, 1, 1, 0);
    Twin y = fresh();
    y.make(0, 255, false);
    for (int i = 0; i < 12; i++) {
      y.append(1, 255);
    }
    y.publish();
    y.send(6);
    due.is("255 inside of sections is no fill", y.read(255, 0, 0, 11), 255);
  }

  private static void lengthZero() {
    due.sentence("A section is COMPLETE when as many bytes stand behind its second one as that"
        + " says.");
    Twin x = small();
    x.spoil(4, 10);
    // 59 0, then 0 1 1, then 3 0; then 1 221 .. is longer than the packet.
    counts("0: two bytes are a section, and others begin behind it", x, 0, 0, 3, 0, 0, 0);
    Twin y = small();
    y.send(1);
    y.spoil(2, 11);
    counts("0 in the next packet", y, 1, 0, 1, 0, 0, 0);
    y.publish();
    y.send(1);
    counts("it is collected no longer", y, 2, 0, 1, 0, 0, 0);
    Twin z = small();
    z.send(1);
    z.spoil(2, 11 ^ 12);
    counts("12: the fill's first byte completes it", z, 1, 0, 1, 0, 0, 0);
    Twin w = small();
    w.send(1);
    w.spoil(2, 11 ^ 13);
    counts("13: the packet's last byte completes it", w, 1, 0, 1, 0, 0, 0);
    Twin v = small();
    v.send(1);
    v.spoil(2, 11 ^ 14);
    counts("14: a byte is missing", v, 1, 0, 0, 0, 0, 0);
    v.send(1);
    counts("14: the start has it not", v, 2, 0, 0, 0, 1, 0);
  }

  private static void lengthTwoHundredFiftyFive() {
    due.sentence("A section is COMPLETE when as many bytes stand behind its second one as that"
        + " says.");
    Twin x = small();
    x.spoil(4, 10 ^ 255);
    // 13 bytes are in the first packet; 17 packets more make 251 of the 257.
    for (int packet = 1; packet <= 17; packet++) {
      x.spoil(1, x.peek(1) & 64);
      counts("255: behind packet " + packet, x, 0, 0, 0, 0, 0, 0);
    }
    x.spoil(1, x.peek(1) & 64);
    counts("255: complete with the 257th byte", x, 0, 0, 1, 0, 0, 0);
    x.send(1);
    counts("the rest of the packet was passed over", x, 0, 0, 1, 0, 0, 0);
    x.send(2);
    counts("then as ever", x, 1, 1, 1, 0, 0, 0);
  }

  private static void sectionThatEndsWithPacket() {
    due.sentence("A complete one is looked at, at once, and is no longer collected");
    Twin x = files(7, 1);
    x.send(4);
    int taken = x.count(1);
    due.is("the last 14 bytes of a block", x.peek(1), 4);
    x.send(1);
    due.is("taken", x.count(1), taken + 1);
    x.lose(1);
    x.send(1);
    due.is("a gap throws nothing away", x.count(4), 0);
    Twin y = files(12, 4, 0);
    y.send(8);
    due.is("a start with a block of 13 bytes", y.peek(4), 11);
    taken = y.count(1);
    y.send(1);
    due.is("taken", y.count(1), taken + 1);
    y.lose(1);
    y.send(1);
    due.is("a gap throws nothing away", y.count(4), 0);
  }

  private static void completeSectionIsLookedAtAtOnce() {
    due.sentence("A complete one is looked at, at once, and is no longer collected");
    Twin x = small();
    x.send(1);
    due.is("list", x.transaction(), 1);
    due.is("nothing of its module yet", x.held(0), 0);
    x.send(1);
    due.is("block", x.held(0), 1);
    due.is("gateway", x.kind(0, 0, 0), 1);
    x.spoil(3, 3);
    counts("not a second time", x, 1, 1, 1, 0, 0, 0);
  }

  private static void wrongCheckIsBad() {
    due.sentence("or its CHECK is not the one due");
    for (int i = 3; i < 15; i++) {
      for (int bit = 1; bit < 256 && i != 4; bit *= 2) {
        Twin x = small();
        x.spoil(i, bit);
        counts("list's byte " + (i - 3) + " ^ " + bit, x, 0, 0, 1, 0, 0, 0);
        due.is("no list", x.transaction(), MISSING);
      }
    }
    for (int i = 3; i < 14; i++) {
      for (int bit = 1; bit < 256; bit *= 2) {
        Twin x = small();
        x.send(1);
        x.spoil(i, bit);
        counts("block's byte " + (i - 1) + " ^ " + bit, x, 1, 0, 1, 0, 0, 0);
        due.is("not held", x.held(0), 0);
      }
    }
    Twin x = small();
    x.spoil(15, 1);
    x.send(1);
    counts("block's first byte", x, 1, 0, 1, 0, 0, 0);
  }

  private static void listsAreCounted() {
    due.sentence("k = 0 lists");
    Twin x = small();
    x.send(64);
    counts("32 cycles", x, 32, 32, 0, 0, 0, 0);
    x.publish();
    due.is("the receiver has the list of before", x.transaction(), 1);
    x.send(1);
    due.is("the new one", x.transaction(), 2);
    due.is("lists", x.count(0), 33);
  }

  private static void newListKeepsUnchangedModules() {
    due.sentence("what is HELD of it stays; otherwise nothing is held of it, and it is listed with"
        + " the new version and size, or no longer listed");
    Twin x = files(12, 12);
    x.send(30);
    due.is("held(0)", x.held(0), 2);
    due.is("held(1)", x.held(1), 2);
    due.is("held(2)", x.held(2), 2);
    x.empty(2);
    x.append(2, 9);
    x.publish();
    x.send(2);
    due.is("transaction()", x.transaction(), 2);
    due.is("other entries: held(0)", x.held(0), 0);
    due.is("other size: held(1)", x.held(1), 0);
    due.is("gone: held(2)", x.held(2), MISSING);
    x.send(30);
    due.is("held(0)", x.held(0), 2);
    due.is("held(1)", x.held(1), 3);
    x.empty(2);
    x.append(2, 8);
    x.publish();
    x.send(2);
    due.is("transaction()", x.transaction(), 3);
    due.is("the same: held(0)", x.held(0), 2);
    due.is("other version, same size: held(1)", x.held(1), 0);
    due.is("the same can be read", x.size(0, 0, 0), 2);
    x.send(30);
    x.publish();
    x.send(2);
    due.is("transaction()", x.transaction(), 4);
    due.is("all the same: held(0)", x.held(0), 2);
    due.is("all the same: held(1)", x.held(1), 3);
  }

  private static void newListGoesThroughTwelveNumbers() {
    due.sentence("Of every module number 0 .. 11");
    Twin x = files(12, 12, 12, 12, 12, 12, 12, 12, 12, 12, 12);
    x.send(64);
    for (int m = 0; m < 12; m++) {
      due.is("twelve modules: held(" + m + ")", x.held(m), m == 0 ? 6 : 2);
    }
    x.empty(11);
    x.append(11, 1);
    x.publish();
    due.is("modules()", x.modules(), 11);
    x.send(4);
    due.is("transaction()", x.transaction(), 2);
    for (int m = 1; m < 10; m++) {
      due.is("the same: held(" + m + ")", x.held(m), 2);
    }
    due.is("other bytes: held(10)", x.held(10), 0);
    due.is("gone: held(11)", x.held(11), MISSING);
    for (int key = 11; key > 0; key--) {
      x.remove(key);
    }
    x.publish();
    x.send(2);
    due.is("one module: held(0)", x.held(0), 1);
    for (int m = 1; m < 12; m++) {
      due.is("one module: held(" + m + ")", x.held(m), MISSING);
    }
  }

  private static void blocksAreCountedEachTime() {
    due.sentence("1 blocks that it took (also those held already)");
    Twin x = oneFile();
    x.send(4);
    counts("first time", x, 1, 2, 0, 0, 0, 0);
    due.is("held", x.held(0), 2);
    x.send(4);
    counts("second time", x, 2, 4, 0, 0, 0, 0);
    due.is("held", x.held(0), 2);
  }

  private static void blocksOfOtherVersionsAreStrange() {
    due.sentence("3 STRANGE ones");
    Twin x = oneFile();
    x.send(4);
    x.append(1, 5);
    x.publish();
    x.spoil(5, 1);
    due.is("the new list is bad", x.transaction(), 1);
    x.send(3);
    counts("blocks of a version that is not listed", x, 1, 2, 1, 2, 0, 0);
    due.is("what was held stays", x.held(0), 2);
    due.is("as it was", x.size(1, 0, 0), 0);
  }

  private static void eachCountCountsItsOwn() {
    due.sentence("k = 0 lists, 1 blocks that it took (also those held already), 2 BAD sections, 3"
        + " STRANGE ones, 4 sections thrown away, 5 ignored packets.");
    Twin x = small();
    x.send(1);
    counts("a list", x, 1, 0, 0, 0, 0, 0);
    x.send(1);
    counts("a block", x, 1, 1, 0, 0, 0, 0);
    x.spoil(5, 1);
    counts("a bad section", x, 1, 1, 1, 0, 0, 0);
    x.publish();
    x.send(1);
    counts("a section thrown away, and a list", x, 2, 1, 1, 0, 1, 0);
    x.spoil(0, 1);
    counts("an ignored packet", x, 2, 1, 1, 0, 1, 1);
    x.make(0, 1, true);
    x.publish();
    x.spoil(5, 1);
    counts("another section thrown away, and a bad one", x, 2, 1, 2, 0, 2, 1);
    x.send(3);
    counts("two strange ones, for their list was bad", x, 2, 1, 2, 2, 2, 1);
  }

  private static void retuneForgetsAll() {
    due.sentence("The receiver is as at first: no list, nothing listed or held, nothing collected,"
        + " no packet ever, all counts 0.");
    Twin x = oneFile();
    x.spoil(0, 1);
    x.lose(3);
    x.spoil(5, 1);
    x.send(3);
    x.send(2);
    x.lose(2);
    x.send(4);
    x.send(2);
    counts("before", x, 3, 2, 1, 2, 1, 1);
    x.retune();
    counts("all counts 0", x, 0, 0, 0, 0, 0, 0);
    due.is("no list", x.transaction(), MISSING);
    for (int m = 0; m < 12; m++) {
      due.is("nothing listed: held(" + m + ")", x.held(m), MISSING);
    }
    due.is("no list: kind(0, 0, 0)", x.kind(0, 0, 0), WAITING);
    x.send(1);
    counts("nothing collected", x, 0, 0, 0, 0, 0, 0);

    Twin y = oneFile();
    y.send(4);
    y.retune();
    y.send(1);
    due.is("listed anew", y.transaction(), 1);
    due.is("nothing held", y.held(0), 0);
    y.send(3);
    due.is("all of it again", y.held(0), 2);

    Twin z = small();
    z.send(1);
    z.retune();
    z.lose(3);
    z.send(2);
    counts("no packet ever, so no gap", z, 1, 1, 0, 0, 0, 0);

    Twin w = oneFile();
    w.send(4);
    w.retune();
    w.spoil(5, 1);
    w.send(3);
    counts("nothing listed, so blocks are strange", w, 0, 0, 1, 2, 0, 0);

    Twin most = files(12, 12, 12, 12, 12, 12, 12, 12, 12, 12, 12);
    most.send(64);
    due.is("twelve modules", most.held(11), 2);
    most.retune();
    for (int m = 0; m < 12; m++) {
      due.is("nothing listed of twelve: held(" + m + ")", most.held(m), MISSING);
    }
    most.send(64);
    due.is("listed and held anew", most.held(11), 2);

    Twin v = fresh();
    v.retune();
    counts("of a new object", v, 0, 0, 0, 0, 0, 0);
    v.retune();
    due.is("twice", v.transaction(), MISSING);
  }

  private static void retuneLeavesSenderAlone() {
    due.sentence("The receiver is as at first");
    Twin x = oneFile();
    x.send(3);
    int[] packet = x.nextPacket();
    x.retune();
    due.isTrue("next packet", Arrays.equals(packet, x.nextPacket()));
    due.is("modules()", x.modules(), 1);
    due.is("module(0)", x.module(0), 65536 + 10);
    due.is("the tree", x.append(1, 1), 1);
    due.is("publish()", x.publish(), 2);
  }

  private static void countRefuses() {
    due.sentence("BAD for another k");
    Unchanged state = new Unchanged(due, ReceiverTest::half);
    int[] want = {1, 1, 0, 0, 0, 0};
    for (int k = 0; k < 6; k++) {
      int which = k;
      state.by("count(" + k + ")", x -> x.count(which), want[k]);
    }
    for (int k : Edges.outside(0, 5)) {
      state.by("count(" + k + ")", x -> x.count(k), BAD);
    }
  }

  /** Has the list and one of two blocks, and collects the other one. */
  private static Twin half() {
    Twin x = oneFile();
    x.send(3);
    return x;
  }

  private static void transactionWithoutList() {
    due.sentence("The receiver's transaction; MISSING when it has no list.");
    Unchanged first = new Unchanged(due, ReceiverTest::fresh);
    first.by("of a new object", Twin::transaction, MISSING);
    Unchanged published = new Unchanged(due, ReceiverTest::oneFile);
    published.by("nothing sent", Twin::transaction, MISSING);
    Unchanged half = new Unchanged(due, ReceiverTest::half);
    half.by("with a list", Twin::transaction, 1);
    Twin x = files(12, 12, 12);
    x.send(1);
    due.is("13 bytes of a list of 21", x.transaction(), MISSING);
    x.send(1);
    due.is("the list", x.transaction(), 1);
    x.publish();
    due.is("not the sender's", x.transaction(), 1);
    x.retune();
    due.is("retuned", x.transaction(), MISSING);
  }

  private static void heldCountsBlocks() {
    due.sentence("How many blocks of module m the receiver holds");
    Twin x = files(12, 12, 12, 12, 12, 12, 12, 12, 12, 12, 12);
    x.send(3);
    due.is("no list yet", x.held(0), MISSING);
    x.send(1);
    for (int m = 0; m < 12; m++) {
      due.is("listed: held(" + m + ")", x.held(m), 0);
    }
    int before = 0;
    for (int packet = 0; packet < 10; packet++) {
      x.send(1);
      due.isTrue("one more at most", x.held(0) - before <= 1 && x.held(0) >= before);
      before = x.held(0);
    }
    due.is("six blocks of 47 bytes", x.held(0), 6);
    x.send(40);
    due.is("six still", x.held(0), 6);
    for (int m = 1; m < 12; m++) {
      due.is("two blocks of 15 bytes: held(" + m + ")", x.held(m), 2);
    }
  }

  private static void heldRefuses() {
    due.sentence("MISSING when it is not listed or m is not 0 .. 11");
    Unchanged half = new Unchanged(due, ReceiverTest::half);
    half.by("held(0)", x -> x.held(0), 1);
    for (int m = 1; m < 12; m++) {
      int module = m;
      half.by("not listed: held(" + m + ")", x -> x.held(module), MISSING);
    }
    for (int m : Edges.outside(0, 11)) {
      half.by("held(" + m + ")", x -> x.held(m), MISSING);
    }
    Twin most = files(12, 12, 12, 12, 12, 12, 12, 12, 12, 12, 12);
    most.send(64);
    due.is("twelve modules: held(11)", most.held(11), 2);
    for (int m : Edges.outside(0, 11)) {
      due.is("twelve modules: held(" + m + ")", most.held(m), MISSING);
    }
  }
}
