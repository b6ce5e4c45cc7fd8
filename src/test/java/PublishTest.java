/** Promises 6 to 8: publish, modules, module. */
public final class PublishTest {
  private static final Due due = new Due();

  public static void main(String[] args) {
    transactionsCount();
    messagesShareModulesUpToTwentyFour();
    oneMessageMayBeLonger();
    twelveObjectsOfWidestKind();
    versionsFollowBytes();
    versionOfNumberThatCameBack();
    firstByteOfModuleDecidesToo();
    entryMovesToAnotherModule();
    changesWaitForPublish();
    due.end();
  }

  private static void transactionsCount() {
    CarouselMount x = new CarouselMount();
    for (int t = 1; t <= 300; t++) {
      due.is("publish " + t, x.publish(), t);
    }
    due.is("the gateway alone", x.modules(), 1);
    due.is("version of what never changed", x.module(0), 65536 + 3);
    x.make(0, 1, false);
    due.is("publish", x.publish(), 301);
    due.is("version as a pair", x.module(0), 65536 * 301 + 10);
    x.send(3);
    due.is("the receiver's pair", x.transaction(), 301);
    for (int wild : new int[] {Integer.MIN_VALUE, -1, 1, 11, 12, Integer.MAX_VALUE}) {
      due.is("module(" + wild + ")", x.module(wild), CarouselMount.MISSING);
    }
  }

  private static void messagesShareModulesUpToTwentyFour() {
    CarouselMount x = new CarouselMount();
    x.make(0, 1, false);
    fill(x, 1, 12);
    x.publish();
    due.is("22 bytes: modules()", x.modules(), 1);
    due.is("22 bytes: module(0)", x.module(0), 65536 + 22);

    CarouselMount y = new CarouselMount();
    y.make(0, 1, false);
    y.make(0, 2, false);
    fill(y, 1, 7);
    y.publish();
    due.is("24 bytes: modules()", y.modules(), 1);
    due.is("24 bytes: module(0)", y.module(0), 65536 + 24);
    fill(y, 1, 1);
    y.publish();
    due.is("25 bytes: modules()", y.modules(), 2);
    due.is("25 bytes: module(0)", y.module(0), 65536 * 2 + 22);
    due.is("25 bytes: module(1)", y.module(1), 65536 * 2 + 3);
  }

  private static void oneMessageMayBeLonger() {
    CarouselMount x = new CarouselMount();
    for (int key = 1; key < 12; key++) {
      x.make(0, key, false);
    }
    x.publish();
    due.is("long gateway: module(0)", x.module(0), 65536 + 47);
    due.is("eight empty files: module(1)", x.module(1), 65536 + 24);
    due.is("three empty files: module(2)", x.module(2), 65536 + 9);
    due.is("modules()", x.modules(), 3);
    x.send(60);
    for (int key = 1; key < 12; key++) {
      due.is("kind of entry " + key, x.kind(key, 0, 0), 3);
    }
  }

  private static void twelveObjectsOfWidestKind() {
    CarouselMount x = new CarouselMount();
    for (int key = 1; key < 12; key++) {
      x.make(0, 20 - key, false);
      fill(x, key, 12);
    }
    x.publish();
    due.is("modules()", x.modules(), 12);
    due.is("module(0)", x.module(0), 65536 + 47);
    for (int m = 1; m < 12; m++) {
      due.is("module(" + m + ")", x.module(m), 65536 + 15);
    }
    due.is("module(12)", x.module(12), CarouselMount.MISSING);
    x.send(64);
    due.is("module 11 is listed", x.held(11), 2);
    due.is("file in module 1", x.read(9, 0, 0, 0), 11);
    due.is("file in module 11", x.read(19, 0, 0, 11), 1);
  }

  private static void versionsFollowBytes() {
    CarouselMount x = new CarouselMount();
    x.make(0, 1, false);
    x.make(0, 2, false);
    fill(x, 1, 12);
    fill(x, 2, 3);
    x.publish();
    due.is("module(0)", x.module(0), 65536 + 11);
    due.is("module(1)", x.module(1), 65536 + 21);
    x.empty(2);
    x.append(2, 2);
    x.append(2, 2);
    x.append(2, 3);
    x.publish();
    due.is("same: module(0)", x.module(0), 65536 + 11);
    due.is("one byte differs: module(1)", x.module(1), 65536 * 2 + 21);
    x.publish();
    due.is("same still: module(0)", x.module(0), 65536 + 11);
    due.is("same since: module(1)", x.module(1), 65536 * 2 + 21);
    x.empty(2);
    fill(x, 2, 3);
    x.publish();
    due.is("as in the first one, not as in the one before", x.module(1), 65536 * 4 + 21);
    x.append(2, 2);
    x.publish();
    due.is("longer by one", x.module(1), 65536 * 5 + 22);
  }

  private static void versionOfNumberThatCameBack() {
    CarouselMount x = new CarouselMount();
    x.make(0, 1, false);
    x.make(0, 2, false);
    fill(x, 1, 12);
    fill(x, 2, 12);
    x.publish();
    due.is("modules()", x.modules(), 3);
    x.remove(2);
    x.publish();
    due.is("fewer", x.modules(), 1);
    due.is("module(1)", x.module(1), CarouselMount.MISSING);
    x.make(0, 2, false);
    fill(x, 2, 12);
    x.publish();
    due.is("module(1) is not of the publishing before", x.module(1), 65536 * 3 + 15);
    due.is("module(2) is not of the publishing before", x.module(2), 65536 * 3 + 15);
  }

  private static void firstByteOfModuleDecidesToo() {
    CarouselMount x = new CarouselMount();
    for (int name = 1; name <= 6; name++) {
      x.make(0, name, false);
    }
    x.publish();
    due.is("gateway alone", x.module(0), 65536 + 27);
    due.is("six empty files", x.module(1), 65536 + 18);
    x.remove(1);
    x.make(0, 1, true);
    x.publish();
    due.is("a kind in an entry differs", x.module(0), 65536 * 2 + 27);
    due.is("the first message's kind differs", x.module(1), 65536 * 2 + 18);
    x.remove(6);
    x.make(0, 6, true);
    x.publish();
    due.is("a kind in an entry differs", x.module(0), 65536 * 3 + 27);
    due.is("the last message's kind differs", x.module(1), 65536 * 3 + 18);
  }

  private static void entryMovesToAnotherModule() {
    CarouselMount x = new CarouselMount();
    x.make(0, 9, false);
    fill(x, 1, 10);
    x.publish();
    due.is("together", x.module(0), 65536 + 20);
    x.make(0, 3, true);
    x.publish();
    due.is("gateway and directory", x.module(0), 65536 * 2 + 14);
    due.is("file", x.module(1), 65536 * 2 + 13);
    x.make(2, 7, false);
    x.publish();
    due.is("gateway, directory, its file", x.module(0), 65536 * 3 + 21);
    due.is("file stays", x.module(1), 65536 * 2 + 13);
    x.send(30);
    due.is("order by names, not by keys", x.kind(3, 7, 0), 3);
    due.is("gateway's first entry: name", x.read(0, 0, 0, 0), 3);
    due.is("gateway's first entry: kind", x.read(0, 0, 0, 1), 2);
    due.is("gateway's first entry: module", x.read(0, 0, 0, 2), 0);
    due.is("gateway's first entry: key", x.read(0, 0, 0, 3), 2);
    due.is("gateway's second entry: name", x.read(0, 0, 0, 4), 9);
    due.is("gateway's second entry: kind", x.read(0, 0, 0, 5), 3);
    due.is("gateway's second entry: module", x.read(0, 0, 0, 6), 1);
    due.is("gateway's second entry: key", x.read(0, 0, 0, 7), 1);
  }

  private static void changesWaitForPublish() {
    CarouselMount x = new CarouselMount();
    x.make(0, 1, false);
    x.publish();
    x.append(1, 77);
    x.make(0, 2, true);
    due.is("module(0) is as published", x.module(0), 65536 + 10);
    x.send(10);
    due.is("file is as published", x.size(1, 0, 0), 0);
    due.is("directory is not published", x.kind(2, 0, 0), CarouselMount.MISSING);
    due.is("publish()", x.publish(), 2);
    due.is("the receiver has the one before", x.transaction(), 1);
    x.send(10);
    due.is("file", x.read(1, 0, 0, 0), 77);
    due.is("directory", x.kind(2, 0, 0), 2);
  }

  private static void fill(CarouselMount x, int key, int bytes) {
    for (int i = 0; i < bytes; i++) {
      x.append(key, key);
    }
  }
}
