/** Promises 17 to 19: kind, size, read, and the path they go. */
public final class PathTest {
  private static final int BAD = CarouselMount.BAD;
  private static final int MISSING = CarouselMount.MISSING;
  private static final int WAITING = CarouselMount.WAITING;
  private static final int[] WILD = {Integer.MIN_VALUE, -1, 256, Integer.MAX_VALUE};
  private static final Due due = new Due();

  public static void main(String[] args) {
    wrongNumbersComeFirst();
    withoutList();
    wholeTree();
    readBytes();
    namesEndAtFirstZero();
    fileOnTheWay();
    firstObstacleIsTheAnswer();
    oldTreeStaysUntilListComes();
    due.end();
  }

  private static void all(CarouselMount x, String what, int a, int b, int c, int want) {
    due.is(what + ": kind", x.kind(a, b, c), want);
    due.is(what + ": size", x.size(a, b, c), want);
    due.is(what + ": read", x.read(a, b, c, 0), want);
  }

  private static void wrongNumbersComeFirst() {
    CarouselMount x = new CarouselMount();
    for (int turn = 0; turn < 2; turn++) {
      for (int wild : WILD) {
        all(x, "first " + wild, wild, 0, 0, BAD);
        all(x, "second " + wild, 0, wild, 0, BAD);
        all(x, "third " + wild, 0, 0, wild, BAD);
        due.is("before a wrong place", x.read(wild, 0, 0, -1), BAD);
      }
      x.publish();
      x.send(2);
    }
    all(x, "largest name", 255, 255, 255, MISSING);
  }

  private static void withoutList() {
    CarouselMount x = new CarouselMount();
    all(x, "nothing published", 0, 0, 0, WAITING);
    all(x, "nothing published", 1, 2, 3, WAITING);
    due.is("before a wrong place", x.read(0, 0, 0, -1), WAITING);
    x.publish();
    all(x, "nothing sent", 0, 0, 0, WAITING);
    x.send(1);
    all(x, "list alone", 0, 0, 0, WAITING);
    x.send(1);
    due.is("gateway's kind", x.kind(0, 0, 0), 1);
    due.is("gateway's size", x.size(0, 0, 0), 0);
    due.is("gateway has no byte", x.read(0, 0, 0, 0), MISSING);
    x.retune();
    all(x, "retuned", 0, 0, 0, WAITING);
  }

  /** 4 is a directory with the file 7 and the directory 9, in which the file 2 lies. */
  private static CarouselMount tree() {
    CarouselMount x = new CarouselMount();
    x.make(0, 4, true);
    x.make(1, 7, false);
    x.make(1, 9, true);
    x.make(3, 2, false);
    for (int i = 0; i < 12; i++) {
      x.append(4, 240 + i);
    }
    x.append(2, 0);
    x.append(2, 255);
    x.append(2, 0);
    x.publish();
    return x;
  }

  private static void wholeTree() {
    CarouselMount x = tree();
    x.send(20);
    due.is("gateway's kind", x.kind(0, 0, 0), 1);
    due.is("gateway's size", x.size(0, 0, 0), 1);
    due.is("4: kind", x.kind(4, 0, 0), 2);
    due.is("4: size", x.size(4, 0, 0), 2);
    due.is("4 7: kind", x.kind(4, 7, 0), 3);
    due.is("4 7: size, not divided", x.size(4, 7, 0), 3);
    due.is("4 9: kind", x.kind(4, 9, 0), 2);
    due.is("4 9: size", x.size(4, 9, 0), 1);
    due.is("4 9 2: kind", x.kind(4, 9, 2), 3);
    due.is("4 9 2: size", x.size(4, 9, 2), 12);
    all(x, "no such name", 5, 0, 0, MISSING);
    all(x, "no such name", 4, 2, 0, MISSING);
    all(x, "no such name", 4, 9, 7, MISSING);
  }

  private static void readBytes() {
    CarouselMount x = tree();
    x.send(20);
    for (int i = 0; i < 12; i++) {
      due.is("4 9 2: read " + i, x.read(4, 9, 2, i), 240 + i);
    }
    due.is("0", x.read(4, 7, 0, 0), 0);
    due.is("255", x.read(4, 7, 0, 1), 255);
    due.is("behind the end", x.read(4, 7, 0, 3), MISSING);
    due.is("behind the end", x.read(4, 9, 2, 12), MISSING);
    for (int wild : WILD) {
      due.is("read " + wild, x.read(4, 9, 2, wild), MISSING);
    }
    int[] entries = {7, 3, x.read(4, 0, 0, 2), 2, 9, 2, x.read(4, 0, 0, 6), 3};
    for (int i = 0; i < entries.length; i++) {
      due.is("directory's byte " + i, x.read(4, 0, 0, i), entries[i]);
    }
    due.is("behind the directory's bytes", x.read(4, 0, 0, 8), MISSING);
  }

  private static void namesEndAtFirstZero() {
    CarouselMount x = tree();
    x.send(20);
    due.is("0 4 9", x.kind(0, 4, 9), 1);
    due.is("0 0 9", x.kind(0, 0, 9), 1);
    due.is("4 0 7", x.kind(4, 0, 7), 2);
    due.is("4 0 200", x.size(4, 0, 200), 2);
    due.is("0 4 7", x.read(0, 4, 7, 0), 4);
  }

  private static void fileOnTheWay() {
    CarouselMount x = tree();
    x.send(20);
    all(x, "a file has no entries", 4, 7, 7, MISSING);
    all(x, "nor one whose bytes look like one", 4, 7, 255, MISSING);
  }

  private static void firstObstacleIsTheAnswer() {
    CarouselMount x = tree();
    int last = x.modules() - 1;
    for (int turn = 0; turn < 20 && x.held(0) < 3; turn++) {
      x.send(1);
    }
    due.is("module 0 is whole", x.held(0), 3);
    due.is("the last one is not", x.held(last), 0);
    due.is("gateway", x.size(0, 0, 0), 1);
    all(x, "no such name in what is whole", 5, 0, 0, MISSING);
    due.is("no such name, further names behind it", x.kind(5, 4, 9), MISSING);
    due.is("4", x.kind(4, 0, 0), 2);
    all(x, "the file's module is not whole", 4, 9, 2, WAITING);
    due.is("before a wrong place", x.read(4, 9, 2, 99), WAITING);
  }

  private static void oldTreeStaysUntilListComes() {
    CarouselMount x = tree();
    x.send(20);
    x.empty(4);
    x.append(4, 1);
    x.remove(2);
    x.publish();
    due.is("as received", x.read(4, 9, 2, 0), 240);
    x.lose(64);
    due.is("as received", x.kind(4, 7, 0), 3);
    x.publish();
    x.send(2);
    due.is("transaction", x.transaction(), 3);
    all(x, "nothing of the old tree is left", 4, 9, 2, WAITING);
    x.send(20);
    due.is("as published", x.read(4, 9, 2, 0), 1);
    due.is("as published", x.size(4, 9, 2), 1);
    all(x, "removed", 4, 7, 0, MISSING);
  }
}
