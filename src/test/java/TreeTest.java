/** Promises 1 to 5: a new object, make, remove, append, empty. */
public final class TreeTest {
  private static final int[] WILD = {Integer.MIN_VALUE, -2, -1, 256, 257, Integer.MAX_VALUE};
  private static final Due due = new Due();

  public static void main(String[] args) {
    newObject();
    makeGivesLeastKeys();
    makeRefuses();
    removeTakesOut();
    removeRefuses();
    appendAddsBytes();
    emptyClears();
    refusalsChangeNothing();
    due.end();
  }

  private static void newObject() {
    CarouselMount x = new CarouselMount();
    due.is("new: modules()", x.modules(), 0);
    due.is("new: module(0)", x.module(0), CarouselMount.MISSING);
    due.is("new: transaction()", x.transaction(), CarouselMount.MISSING);
    for (int i = 0; i < 16; i++) {
      due.is("new: peek(" + i + ")", x.peek(i), CarouselMount.MISSING);
    }
    for (int k = 0; k < 6; k++) {
      due.is("new: count(" + k + ")", x.count(k), 0);
    }
    for (int m = 0; m < 12; m++) {
      due.is("new: held(" + m + ")", x.held(m), CarouselMount.MISSING);
    }
    due.is("new: kind(0, 0, 0)", x.kind(0, 0, 0), CarouselMount.WAITING);
    for (int key = 1; key < 12; key++) {
      due.is("new: remove(" + key + ")", x.remove(key), CarouselMount.MISSING);
      due.is("new: append(" + key + ", 0)", x.append(key, 0), CarouselMount.MISSING);
      due.is("new: make(" + key + ", 1, true)", x.make(key, 1, true), CarouselMount.MISSING);
    }
    due.is("new: first make", x.make(0, 1, true), 1);
  }

  private static void makeGivesLeastKeys() {
    CarouselMount x = new CarouselMount();
    for (int key = 1; key < 12; key++) {
      due.is("make key " + key, x.make(0, 256 - key, key % 2 == 0), key);
    }
    due.is("make when all are taken", x.make(0, 100, false), CarouselMount.FULL);
    due.is("remove(7)", x.remove(7), 0);
    due.is("remove(3)", x.remove(3), 0);
    due.is("least free key", x.make(2, 1, true), 3);
    due.is("next free key", x.make(3, 1, false), 7);
    due.is("full again", x.make(3, 2, false), CarouselMount.FULL);
  }

  private static void makeRefuses() {
    CarouselMount x = new CarouselMount();
    due.is("make(0, 1, true)", x.make(0, 1, true), 1);
    due.is("make(0, 255, false)", x.make(0, 255, false), 2);
    due.is("same name in another directory", x.make(1, 1, false), 3);
    for (int wild : WILD) {
      due.is("make(" + wild + ", 5, true)", x.make(wild, 5, true), CarouselMount.BAD);
      due.is("make(0, " + wild + ", true)", x.make(0, wild, true), CarouselMount.BAD);
    }
    due.is("make(12, 5, true)", x.make(12, 5, true), CarouselMount.BAD);
    due.is("make(0, 0, true)", x.make(0, 0, true), CarouselMount.BAD);
    due.is("bad name comes before missing parent", x.make(11, 0, true), CarouselMount.BAD);
    due.is("no object", x.make(11, 5, true), CarouselMount.MISSING);
    due.is("in a file", x.make(2, 5, true), CarouselMount.MISSING);
    due.is("name of a directory", x.make(0, 1, false), CarouselMount.EXISTS);
    due.is("name of a file", x.make(0, 255, true), CarouselMount.EXISTS);
    for (int key = 4; key < 12; key++) {
      due.is("fill up", x.make(0, key, false), key);
    }
    due.is("missing comes before full", x.make(2, 5, true), CarouselMount.MISSING);
    due.is("exists comes before full", x.make(0, 1, true), CarouselMount.EXISTS);
    due.is("full", x.make(0, 99, true), CarouselMount.FULL);
  }

  private static void removeTakesOut() {
    CarouselMount x = new CarouselMount();
    x.make(0, 1, true);
    x.make(1, 2, false);
    due.is("append", x.append(2, 9), 1);
    due.is("directory with an entry", x.remove(1), CarouselMount.NOT_EMPTY);
    due.is("file", x.remove(2), 0);
    due.is("file again", x.remove(2), CarouselMount.MISSING);
    due.is("append to what is gone", x.append(2, 9), CarouselMount.MISSING);
    due.is("empty what is gone", x.empty(2), CarouselMount.MISSING);
    due.is("directory then", x.remove(1), 0);
    due.is("make in what is gone", x.make(1, 1, false), CarouselMount.MISSING);
    due.is("name is free again", x.make(0, 1, false), 1);
    due.is("a new file is empty", x.make(0, 2, false), 2);
    due.is("a new file is empty", x.append(2, 9), 1);
  }

  private static void removeRefuses() {
    CarouselMount x = new CarouselMount();
    for (int wild : WILD) {
      due.is("remove(" + wild + ")", x.remove(wild), CarouselMount.BAD);
    }
    due.is("remove(0)", x.remove(0), CarouselMount.BAD);
    due.is("remove(12)", x.remove(12), CarouselMount.BAD);
    due.is("remove(11)", x.remove(11), CarouselMount.MISSING);
  }

  private static void appendAddsBytes() {
    CarouselMount x = new CarouselMount();
    x.make(0, 1, false);
    x.make(0, 2, true);
    for (int wild : WILD) {
      due.is("append(1, " + wild + ")", x.append(1, wild), CarouselMount.BAD);
      due.is("append(" + wild + ", 1)", x.append(wild, 1), CarouselMount.BAD);
    }
    due.is("append(0, 1)", x.append(0, 1), CarouselMount.BAD);
    due.is("append(12, 1)", x.append(12, 1), CarouselMount.BAD);
    due.is("bad value comes before missing", x.append(9, 256), CarouselMount.BAD);
    due.is("directory", x.append(2, 1), CarouselMount.MISSING);
    due.is("no object", x.append(3, 1), CarouselMount.MISSING);
    for (int length = 1; length <= 12; length++) {
      due.is("append, length " + length, x.append(1, length % 2 == 0 ? 0 : 255), length);
    }
    due.is("append to 12", x.append(1, 0), CarouselMount.FULL);
    due.is("bad value comes before full", x.append(1, -1), CarouselMount.BAD);
  }

  private static void emptyClears() {
    CarouselMount x = new CarouselMount();
    x.make(0, 1, false);
    x.make(0, 2, true);
    for (int wild : WILD) {
      due.is("empty(" + wild + ")", x.empty(wild), CarouselMount.BAD);
    }
    due.is("empty(0)", x.empty(0), CarouselMount.BAD);
    due.is("empty(12)", x.empty(12), CarouselMount.BAD);
    due.is("directory", x.empty(2), CarouselMount.MISSING);
    due.is("no object", x.empty(3), CarouselMount.MISSING);
    due.is("empty file", x.empty(1), 0);
    x.append(1, 5);
    x.append(1, 6);
    due.is("had two", x.empty(1), 2);
    due.is("has none", x.empty(1), 0);
    due.is("begins anew", x.append(1, 7), 1);
  }

  private static void refusalsChangeNothing() {
    CarouselMount x = new CarouselMount();
    x.make(0, 1, true);
    x.make(1, 2, false);
    x.append(2, 42);
    x.make(1, 2, true);
    x.make(0, 0, true);
    x.remove(1);
    x.append(2, 256);
    x.append(1, 1);
    x.empty(1);
    x.publish();
    x.send(20);
    due.is("gateway's entries", x.size(0, 0, 0), 1);
    due.is("directory's entries", x.size(1, 0, 0), 1);
    due.is("file's kind", x.kind(1, 2, 0), 3);
    due.is("file's size", x.size(1, 2, 0), 1);
    due.is("file's byte", x.read(1, 2, 0, 0), 42);
  }
}
