/** Promises 10 to 16 on the receiver's side: send, lose, spoil, retune, count, transaction, held. */
public final class ReceiverTest {
  private static final int MISSING = CarouselMount.MISSING;
  private static final Due due = new Due();

  public static void main(String[] args) {
    sendReachesReceiver();
    loseDoesNot();
    ignoredPackets();
    counterOfIgnoredPacketIsNotKept();
    gapThrowsAway();
    sixteenLostAreNotNoticed();
    brokenCheckIsBad();
    spoiltLengthRunsOn();
    pointerTooHigh();
    pointerAtThirteen();
    pointerTooLowThrowsAway();
    startMadePlain();
    fillEndsPacket();
    blocksOfOldVersionAreStrange();
    newListKeepsUnchangedModules();
    retuneForgetsAll();
    wrongNumbers();
    due.end();
  }

  /** One list of 12 bytes and one block of 13: two packets a cycle. */
  private static CarouselMount small() {
    CarouselMount x = new CarouselMount();
    x.publish();
    return x;
  }

  /** One list of 12 bytes, blocks of 18 and 12: four packets a cycle, the third with r = 3. */
  private static CarouselMount oneFile() {
    CarouselMount x = new CarouselMount();
    x.make(0, 1, false);
    x.publish();
    return x;
  }

  private static void counts(String what, CarouselMount x, int... want) {
    for (int k = 0; k < 6; k++) {
      due.is(what + ": count(" + k + ")", x.count(k), want[k]);
    }
  }

  private static void sendReachesReceiver() {
    CarouselMount x = small();
    x.send(1);
    counts("list", x, 1, 0, 0, 0, 0, 0);
    due.is("transaction()", x.transaction(), 1);
    due.is("held(0)", x.held(0), 0);
    due.is("held(1)", x.held(1), MISSING);
    x.send(1);
    counts("list and block", x, 1, 1, 0, 0, 0, 0);
    due.is("held(0)", x.held(0), 1);
    x.send(64);
    counts("33 cycles", x, 33, 33, 0, 0, 0, 0);
    due.is("held(0)", x.held(0), 1);
  }

  private static void loseDoesNot() {
    CarouselMount x = small();
    x.lose(64);
    counts("all lost", x, 0, 0, 0, 0, 0, 0);
    due.is("transaction()", x.transaction(), MISSING);
    x.lose(1);
    x.send(1);
    counts("tuned in behind the section's first byte", x, 0, 0, 0, 0, 0, 0);
    x.send(2);
    counts("from the next cycle on", x, 1, 1, 0, 0, 0, 0);
  }

  private static void ignoredPackets() {
    for (int bit : new int[] {128, 32, 16, 176}) {
      CarouselMount x = small();
      x.spoil(1, bit);
      counts("control bits " + bit, x, 0, 0, 0, 0, 0, 1);
      due.is("transaction()", x.transaction(), MISSING);
    }
    for (int bit = 1; bit < 256; bit *= 2) {
      CarouselMount x = small();
      x.spoil(0, bit);
      counts("first byte without " + bit, x, 0, 0, 0, 0, 0, 1);
    }
    CarouselMount x = small();
    x.spoil(1, 0);
    counts("nothing is changed", x, 1, 0, 0, 0, 0, 0);
  }

  private static void counterOfIgnoredPacketIsNotKept() {
    CarouselMount x = small();
    x.send(1);
    x.spoil(0, 255);
    counts("block's second half is ignored", x, 1, 0, 0, 0, 0, 1);
    x.send(1);
    counts("the one after it does not follow", x, 2, 0, 0, 0, 1, 1);

    CarouselMount y = small();
    y.spoil(0, 1);
    y.lose(4);
    y.spoil(1, 64);
    counts("an ignored packet is none before", y, 0, 0, 0, 0, 0, 1);
  }

  private static void gapThrowsAway() {
    CarouselMount x = small();
    x.send(1);
    x.lose(2);
    x.send(1);
    counts("gap of two", x, 1, 0, 0, 0, 1, 0);
    x.send(2);
    counts("in step again", x, 2, 1, 0, 0, 1, 0);
    x.lose(1);
    x.send(1);
    counts("gap without a section under way", x, 2, 1, 0, 0, 1, 0);

    CarouselMount y = small();
    y.send(1);
    y.spoil(1, 4);
    counts("wrong counter", y, 1, 0, 0, 0, 1, 0);
    y.send(1);
    counts("then the right one, with nothing under way", y, 2, 0, 0, 0, 1, 0);
  }

  private static void sixteenLostAreNotNoticed() {
    CarouselMount x = small();
    x.send(1);
    x.lose(16);
    x.send(1);
    counts("sixteen lost", x, 1, 1, 0, 0, 0, 0);

    CarouselMount y = small();
    y.send(15);
    y.send(1);
    y.send(1);
    counts("0 follows 15", y, 9, 8, 0, 0, 0, 0);
    y.lose(15);
    y.lose(15);
    y.send(1);
    counts("fourteen more", y, 9, 8, 0, 0, 1, 0);
  }

  private static void brokenCheckIsBad() {
    for (int i = 5; i < 15; i++) {
      CarouselMount x = small();
      x.spoil(i, 1);
      counts("list's byte " + (i - 3), x, 0, 0, 1, 0, 0, 0);
      due.is("no list", x.transaction(), MISSING);
    }
    CarouselMount x = small();
    x.send(1);
    x.spoil(13, 128);
    counts("block's last byte", x, 1, 0, 1, 0, 0, 0);
    due.is("not held", x.held(0), 0);
    x.send(1);
    x.spoil(14, 128);
    counts("behind the block's last byte", x, 2, 1, 1, 0, 0, 0);
  }

  private static void spoiltLengthRunsOn() {
    CarouselMount x = small();
    x.spoil(4, 10);
    // 59 0, then 0 1 1, then 3 0 are complete; what begins behind them is longer.
    counts("length 0: two bytes are a section, the next one follows", x, 0, 0, 3, 0, 0, 0);
    CarouselMount y = small();
    y.spoil(4, 10 ^ 255);
    counts("length 255: not complete", y, 0, 0, 0, 0, 0, 0);
    y.send(1);
    counts("a packet that is no start is added", y, 0, 0, 0, 0, 0, 0);
    y.send(1);
    counts("a start ends it", y, 1, 0, 0, 0, 1, 0);
  }

  private static void pointerTooHigh() {
    for (int p : new int[] {14, 15, 128, 255}) {
      CarouselMount x = small();
      x.spoil(2, p);
      counts("pointer " + p + ", nothing under way", x, 0, 0, 0, 0, 0, 0);
      x.send(3);
      counts("and nothing began", x, 1, 1, 0, 0, 0, 0);

      CarouselMount y = oneFile();
      y.send(2);
      y.spoil(2, 3 ^ p);
      counts("pointer " + p + ", a block under way", y, 1, 0, 0, 0, 1, 0);
      y.send(1);
      counts("and nothing began", y, 1, 0, 0, 0, 1, 0);
    }
    CarouselMount x = oneFile();
    x.send(1);
    due.is("the block's length stands where a start has its pointer", x.peek(2), 16);
    x.spoil(1, 64);
    counts("made a start", x, 1, 0, 0, 0, 1, 0);
  }

  private static void pointerAtThirteen() {
    CarouselMount x = small();
    x.spoil(2, 13);
    counts("nothing begins", x, 0, 0, 0, 0, 0, 0);
    x.send(1);
    x.spoil(2, 12);
    counts("the last byte begins a section", x, 0, 0, 0, 0, 0, 0);
    x.send(1);
    counts("which is a block for which no list is there", x, 0, 0, 0, 1, 0, 0);

    CarouselMount y = oneFile();
    y.send(2);
    y.spoil(2, 3 ^ 13);
    counts("three of thirteen bytes complete the block", y, 1, 1, 0, 0, 0, 0);
    y.send(1);
    counts("the next block did not begin", y, 1, 1, 0, 0, 0, 0);

    CarouselMount z = small();
    z.send(1);
    z.publish();
    z.spoil(2, 13);
    counts("thirteen bytes do not complete it", z, 1, 0, 0, 0, 1, 0);
  }

  private static void pointerTooLowThrowsAway() {
    CarouselMount x = oneFile();
    x.send(2);
    due.is("rest of the first block", x.peek(2), 3);
    x.spoil(2, 3 ^ 2);
    due.is("a byte too few", x.count(4), 1);
    due.is("no block", x.count(1), 0);

    CarouselMount y = oneFile();
    y.send(2);
    y.spoil(2, 3 ^ 7);
    due.is("some bytes too many are passed over", y.count(1), 1);
    due.is("nothing is thrown away", y.count(4), 0);
  }

  private static void startMadePlain() {
    CarouselMount x = small();
    x.spoil(1, 64);
    counts("no section is under way", x, 0, 0, 0, 0, 0, 0);
    x.send(1);
    counts("nor then", x, 0, 0, 0, 0, 0, 0);
    x.send(2);
    counts("from the next start on", x, 1, 1, 0, 0, 0, 0);
  }

  private static void fillEndsPacket() {
    CarouselMount x = small();
    x.spoil(3, 59 ^ 255);
    counts("255 in place of the first byte", x, 0, 0, 0, 0, 0, 0);
    x.send(1);
    counts("the rest of it was passed over", x, 0, 0, 0, 0, 0, 0);
    x.spoil(3, 59 ^ 254);
    counts("254 is no fill", x, 0, 0, 1, 0, 0, 0);
    x.spoil(15, 0);
    counts("the block behind it", x, 0, 0, 1, 1, 0, 0);
    x.spoil(15, 60 ^ 255);
    counts("255 in place of the last byte", x, 1, 0, 1, 1, 0, 0);
    x.send(1);
    counts("the block has no beginning", x, 1, 0, 1, 1, 0, 0);
  }

  private static void blocksOfOldVersionAreStrange() {
    CarouselMount x = new CarouselMount();
    x.make(0, 1, false);
    x.make(0, 2, false);
    x.publish();
    x.send(12);
    int taken = x.count(1);
    x.append(1, 5);
    x.publish();
    x.lose(1);
    x.send(3);
    due.is("taken", x.count(1), taken);
    due.isTrue("strange", x.count(3) > 0);
    due.is("held(0)", x.held(0), 3);
    due.is("transaction()", x.transaction(), 1);
  }

  private static void newListKeepsUnchangedModules() {
    CarouselMount x = new CarouselMount();
    x.make(0, 1, false);
    x.make(0, 2, false);
    for (int i = 0; i < 12; i++) {
      x.append(1, i);
      x.append(2, i);
    }
    x.publish();
    x.send(30);
    due.is("held(0)", x.held(0), 2);
    due.is("held(1)", x.held(1), 2);
    due.is("held(2)", x.held(2), 2);
    x.empty(1);
    x.append(1, 9);
    x.publish();
    due.is("the first file joins the gateway", x.module(0), 65536 * 2 + 15);
    due.is("the second one is alone", x.module(1), 65536 * 2 + 15);
    x.send(2);
    due.is("transaction()", x.transaction(), 2);
    due.is("changed: held(0)", x.held(0), 0);
    due.is("changed: held(1)", x.held(1), 0);
    due.is("gone: held(2)", x.held(2), MISSING);
    x.send(30);
    x.empty(2);
    x.publish();
    due.is("both join the gateway", x.modules(), 1);
    x.send(30);
    due.is("held(0)", x.held(0), 3);
    due.is("gone: held(1)", x.held(1), MISSING);
    x.publish();
    x.send(1);
    due.is("unchanged: held(0)", x.held(0), 3);
    due.is("transaction()", x.transaction(), 4);
  }

  private static void retuneForgetsAll() {
    CarouselMount x = small();
    x.spoil(0, 1);
    x.spoil(5, 1);
    x.send(8);
    x.spoil(5, 1);
    x.send(2);
    x.lose(1);
    x.send(2);
    x.retune();
    counts("retuned", x, 0, 0, 0, 0, 0, 0);
    due.is("transaction()", x.transaction(), MISSING);
    due.is("held(0)", x.held(0), MISSING);
    due.is("kind(0, 0, 0)", x.kind(0, 0, 0), CarouselMount.WAITING);

    CarouselMount y = small();
    y.send(1);
    y.retune();
    y.send(1);
    counts("nothing was under way", y, 0, 0, 0, 0, 0, 0);

    CarouselMount z = small();
    z.send(2);
    z.retune();
    z.send(2);
    due.is("all anew", z.held(0), 1);
    due.is("publishing is not touched", z.module(0), 65536 + 3);

    CarouselMount w = small();
    w.send(1);
    w.retune();
    w.lose(3);
    w.send(2);
    counts("no packet before, so no gap", w, 1, 1, 0, 0, 0, 0);
  }

  private static void wrongNumbers() {
    CarouselMount x = small();
    x.send(2);
    for (int wild : new int[] {Integer.MIN_VALUE, -1, 6, 12, Integer.MAX_VALUE}) {
      due.is("count(" + wild + ")", x.count(wild), CarouselMount.BAD);
      due.is("held(" + wild + ")", x.held(wild), MISSING);
    }
    due.is("held(11)", x.held(11), MISSING);
  }
}
