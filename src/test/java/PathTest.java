/** Promises 17 to 19, sentence by sentence: kind, size, read, and the path they go. */
public final class PathTest {
  private static final int BAD = CarouselMount.BAD;
  private static final int MISSING = CarouselMount.MISSING;
  private static final int WAITING = CarouselMount.WAITING;
  private static final Due due = new Due();

  public static void main(String[] args) {
    numbersOutOfRange();
    numbersAtTheEdges();
    withoutList();
    pathWithoutNames();
    namesEndAtFirstZero();
    kindOfEachMessage();
    sizeOfEachMessage();
    readEachByte();
    readOutOfRange();
    noSuchName();
    fileOnTheWay();
    moduleThatIsNotWhole();
    directoryInModuleThatIsNotWhole();
    moduleThatIsWhole();
    messagesOneBehindTheOther();
    readWaitsForThePath();
    refusalsComeInOrder();
    filesOfOneBroadcastAlone();
    due.end();
  }

  private static Twin fresh() {
    return new Twin(due);
  }

  private static void all(Twin x, String what, int a, int b, int c, int want) {
    due.is(what + ": kind", x.kind(a, b, c), want);
    due.is(what + ": size", x.size(a, b, c), want);
    due.is(what + ": read", x.read(a, b, c, 0), want);
  }

  /** 4 is a directory with the file 7 and the directory 9, in which the file 2 lies. */
  private static Twin tree() {
    Twin x = fresh();
    x.make(0, 4, true);
    x.make(1, 7, false);
    x.make(1, 9, true);
    x.make(3, 2, false);
    for (int i = 0; i < 12; i++) {
      x.append(4, 240 + i);
    }
    x.append(2, 0);
    x.append(2, 255);
    x.append(2, 0);
    x.publish();
    return x;
  }

  private static Twin received() {
    Twin x = tree();
    x.send(20);
    return x;
  }

  private static Twin listAlone() {
    Twin x = fresh();
    x.publish();
    x.send(1);
    return x;
  }

  private static void numbersOutOfRange() {
    due.sentence("BAD when one of the three is not 0 .. 255");
    Unchanged[] states = {
      new Unchanged(due, PathTest::fresh), new Unchanged(due, PathTest::listAlone),
      new Unchanged(due, PathTest::received),
    };
    for (Unchanged state : states) {
      for (int wild : Edges.outside(0, 255)) {
        state.by("kind(" + wild + ", 0, 0)", x -> x.kind(wild, 0, 0), BAD);
        state.by("kind(0, " + wild + ", 0)", x -> x.kind(0, wild, 0), BAD);
        state.by("kind(0, 0, " + wild + ")", x -> x.kind(0, 0, wild), BAD);
        state.by("kind(4, 9, " + wild + ")", x -> x.kind(4, 9, wild), BAD);
        state.by("size(" + wild + ", 0, 0)", x -> x.size(wild, 0, 0), BAD);
        state.by("size(0, " + wild + ", 0)", x -> x.size(0, wild, 0), BAD);
        state.by("size(0, 0, " + wild + ")", x -> x.size(0, 0, wild), BAD);
        state.by("read(" + wild + ", 0, 0, 0)", x -> x.read(wild, 0, 0, 0), BAD);
        state.by("read(0, " + wild + ", 0, 0)", x -> x.read(0, wild, 0, 0), BAD);
        state.by("read(0, 0, " + wild + ", 0)", x -> x.read(0, 0, wild, 0), BAD);
      }
    }
  }

  private static void numbersAtTheEdges() {
    due.sentence("BAD when one of the three is not 0 .. 255");
    Twin x = fresh();
    x.make(0, 255, true);
    x.make(1, 255, true);
    x.make(2, 255, false);
    x.make(0, 1, true);
    x.make(4, 1, true);
    x.make(5, 1, false);
    x.publish();
    x.send(20);
    due.is("greatest names", x.kind(255, 255, 255), 3);
    due.is("greatest names", x.kind(255, 255, 0), 2);
    due.is("least names", x.kind(1, 1, 1), 3);
    due.is("no name", x.kind(0, 0, 0), 1);
    due.is("behind the first 0", x.kind(0, 255, 255), 1);
  }

  private static void withoutList() {
    due.sentence("or the receiver has no list yet: WAITING");
    Unchanged first = new Unchanged(due, PathTest::fresh);
    Unchanged published = new Unchanged(due, PathTest::tree);
    for (Unchanged state : new Unchanged[] {first, published}) {
      state.by("kind(0, 0, 0)", x -> x.kind(0, 0, 0), WAITING);
      state.by("size(0, 0, 0)", x -> x.size(0, 0, 0), WAITING);
      state.by("read(0, 0, 0, 0)", x -> x.read(0, 0, 0, 0), WAITING);
      state.by("kind(4, 7, 0)", x -> x.kind(4, 7, 0), WAITING);
      state.by("size(255, 255, 255)", x -> x.size(255, 255, 255), WAITING);
      state.by("read(1, 2, 3, -1)", x -> x.read(1, 2, 3, -1), WAITING);
    }
    Twin x = received();
    x.retune();
    all(x, "retuned", 4, 7, 0, WAITING);
  }

  private static void pathWithoutNames() {
    due.sentence("It leads to the gateway");
    Twin x = fresh();
    x.publish();
    x.send(1);
    all(x, "the list alone", 0, 0, 0, WAITING);
    x.send(1);
    due.is("kind", x.kind(0, 0, 0), 1);
    due.is("size of a gateway without entries", x.size(0, 0, 0), 0);
    due.is("no byte", x.read(0, 0, 0, 0), MISSING);
    all(x, "no such name", 1, 0, 0, MISSING);
    all(x, "no such name", 255, 255, 255, MISSING);
  }

  private static void namesEndAtFirstZero() {
    due.sentence("A PATH is three numbers: its names are those before the first 0.");
    Twin x = received();
    due.is("0 4 9", x.kind(0, 4, 9), 1);
    due.is("0 0 9", x.kind(0, 0, 9), 1);
    due.is("0 200 0", x.size(0, 200, 0), 1);
    due.is("0 4 7, byte", x.read(0, 4, 7, 0), 4);
    due.is("4 0 7", x.kind(4, 0, 7), 2);
    due.is("4 0 200", x.size(4, 0, 200), 2);
    due.is("4 7 0", x.kind(4, 7, 0), 3);
    due.is("4 9 2", x.kind(4, 9, 2), 3);
  }

  private static void kindOfEachMessage() {
    due.sentence("The kind of the message that the path (a, b, c) leads to");
    Unchanged state = new Unchanged(due, PathTest::received);
    state.by("the gateway", x -> x.kind(0, 0, 0), 1);
    state.by("a directory", x -> x.kind(4, 0, 0), 2);
    state.by("a directory in it", x -> x.kind(4, 9, 0), 2);
    state.by("a file in it", x -> x.kind(4, 7, 0), 3);
    state.by("a file in the one in it", x -> x.kind(4, 9, 2), 3);
  }

  private static void sizeOfEachMessage() {
    due.sentence("The length of the message that the path leads to, for the kinds 1 and 2 divided"
        + " by four without remainder.");
    Unchanged state = new Unchanged(due, PathTest::received);
    state.by("the gateway", x -> x.size(0, 0, 0), 1);
    state.by("a directory", x -> x.size(4, 0, 0), 2);
    state.by("a directory in it", x -> x.size(4, 9, 0), 1);
    state.by("a file of three bytes", x -> x.size(4, 7, 0), 3);
    state.by("a file of twelve bytes", x -> x.size(4, 9, 2), 12);
    Twin x = fresh();
    for (int name = 1; name < 12; name++) {
      x.make(0, name, name == 11);
    }
    x.publish();
    x.send(40);
    due.is("eleven entries", x.size(0, 0, 0), 11);
    due.is("an empty file", x.size(1, 0, 0), 0);
    due.is("an empty directory", x.size(11, 0, 0), 0);
  }

  private static void readEachByte() {
    due.sentence("Byte i (from 0) of the message that the path leads to, behind its three first"
        + " bytes.");
    Twin x = received();
    for (int i = 0; i < 12; i++) {
      due.is("4 9 2, byte " + i, x.read(4, 9, 2, i), 240 + i);
    }
    int[] three = {0, 255, 0};
    for (int i = 0; i < 3; i++) {
      due.is("4 7, byte " + i, x.read(4, 7, 0, i), three[i]);
    }
    int[] gateway = {4, 2, 0, 1};
    for (int i = 0; i < 4; i++) {
      due.is("gateway, byte " + i, x.read(0, 0, 0, i), gateway[i]);
    }
    int[] directory = {7, 3, 0, 2, 9, 2, 1, 3};
    for (int i = 0; i < 8; i++) {
      due.is("4, byte " + i, x.read(4, 0, 0, i), directory[i]);
    }
  }

  private static void readOutOfRange() {
    due.sentence("MISSING also when i is negative or not less than its length");
    Unchanged state = new Unchanged(due, PathTest::received);
    state.by("last byte of twelve", x -> x.read(4, 9, 2, 11), 251);
    state.by("last byte of three", x -> x.read(4, 7, 0, 2), 0);
    state.by("last byte of a directory", x -> x.read(4, 0, 0, 7), 3);
    for (int i : Edges.outside(0, 11)) {
      state.by("read(4, 9, 2, " + i + ")", x -> x.read(4, 9, 2, i), MISSING);
    }
    for (int i : Edges.outside(0, 2)) {
      state.by("read(4, 7, 0, " + i + ")", x -> x.read(4, 7, 0, i), MISSING);
    }
    for (int i : Edges.outside(0, 7)) {
      state.by("read(4, 0, 0, " + i + ")", x -> x.read(4, 0, 0, i), MISSING);
    }
    Twin x = fresh();
    x.make(0, 1, false);
    x.publish();
    x.send(4);
    due.is("an empty file has no byte 0", x.read(1, 0, 0, 0), MISSING);
    due.is("an empty file has no byte -1", x.read(1, 0, 0, -1), MISSING);
  }

  private static void noSuchName() {
    due.sentence("the first one with that name is taken (MISSING if there is none)");
    Twin x = received();
    all(x, "in the gateway", 5, 0, 0, MISSING);
    all(x, "in the gateway, further names", 5, 9, 2, MISSING);
    all(x, "in a directory", 4, 2, 0, MISSING);
    all(x, "in a directory in it", 4, 9, 7, MISSING);
    all(x, "a name one less", 3, 0, 0, MISSING);
    all(x, "an entry's key is no name", 1, 0, 0, MISSING);
    all(x, "an entry's kind is no name", 2, 0, 0, MISSING);
  }

  private static void fileOnTheWay() {
    due.sentence("what was reached must be of kind 1 or 2 (else MISSING)");
    Twin x = fresh();
    x.make(0, 4, false);
    for (int value : new int[] {4, 3, 0, 1}) {
      x.append(1, value);
    }
    x.publish();
    x.send(10);
    due.is("the file", x.size(4, 0, 0), 4);
    all(x, "its bytes look like an entry that leads to itself", 4, 4, 0, MISSING);
    all(x, "twice", 4, 4, 4, MISSING);
    Twin y = received();
    all(y, "a file in a directory", 4, 7, 7, MISSING);
  }

  /** All is received; then one byte of the file 4 9 2 in the last module is another one. */
  private static Twin fileChanged() {
    Twin x = received();
    x.empty(4);
    for (int i = 0; i < 12; i++) {
      x.append(4, i);
    }
    x.publish();
    for (int turn = 0; turn < 3 && x.transaction() < 2; turn++) {
      x.send(1);
    }
    due.is("the new list", x.transaction(), 2);
    return x;
  }

  private static void moduleThatIsNotWhole() {
    due.sentence("When that module, or module 0, is listed but not whole");
    Twin x = fileChanged();
    due.is("modules()", x.modules(), 2);
    due.is("held(0)", x.held(0), 3);
    due.is("held(1)", x.held(1), 0);
    due.is("the gateway", x.kind(0, 0, 0), 1);
    due.is("a directory in module 0", x.kind(4, 0, 0), 2);
    due.is("a file in module 0", x.read(4, 7, 0, 1), 255);
    all(x, "a directory in module 1", 4, 9, 0, WAITING);
    all(x, "a file in module 1", 4, 9, 2, WAITING);
    all(x, "a name that module 1 has not", 4, 9, 3, WAITING);
    all(x, "a name that module 0 has not", 4, 8, 0, MISSING);
    all(x, "a name that module 0 has not, a further name", 4, 8, 2, MISSING);
    all(x, "a name behind a file of module 0", 4, 7, 2, MISSING);
    int held = 0;
    for (int turn = 0; turn < 12 && held < 3; turn++) {
      x.send(1);
      held = x.held(1);
      int want = held < 3 ? WAITING : 3;
      due.is(held + " blocks of three", x.kind(4, 9, 2), want);
    }
    due.is("whole", x.read(4, 9, 2, 11), 11);
  }

  /**
   * Module 0 has the gateway, module 1 the directory 3 and the file 3 in it, module 2 the file 5
   * in the directory; all is received, then a new list in which module 1 alone is another one.
   */
  private static Twin directoryChanged() {
    Twin x = fresh();
    for (int name = 3; name < 7; name++) {
      x.make(0, name, name == 3);
    }
    x.make(1, 3, false);
    x.make(1, 5, false);
    for (int i = 0; i < 9; i++) {
      x.append(5, i);
      x.append(6, i);
    }
    x.publish();
    x.send(40);
    due.is("the file 3 3", x.read(3, 3, 0, 8), 8);
    due.is("the file 3 5", x.read(3, 5, 0, 8), 8);
    x.empty(5);
    for (int i = 0; i < 9; i++) {
      x.append(5, 100 + i);
    }
    x.publish();
    for (int turn = 0; turn < 3 && x.transaction() < 2; turn++) {
      x.send(1);
    }
    return x;
  }

  private static void directoryInModuleThatIsNotWhole() {
    due.sentence("The first of these that comes on the way is the answer.");
    Twin x = directoryChanged();
    due.is("transaction()", x.transaction(), 2);
    due.is("modules()", x.modules(), 3);
    due.is("held(0)", x.held(0), 3);
    due.is("held(1)", x.held(1), 0);
    due.is("held(2) is whole", x.held(2), 3);
    due.is("a file in module 2", x.kind(4, 0, 0), 3);
    all(x, "the directory", 3, 0, 0, WAITING);
    all(x, "a file in module 2, by way of the directory", 3, 5, 0, WAITING);
    all(x, "no such name in the directory", 3, 9, 0, WAITING);
    all(x, "no such name in the gateway", 9, 3, 0, MISSING);
    x.send(40);
    due.is("all whole", x.read(3, 3, 0, 8), 108);
    due.is("all whole", x.read(3, 5, 0, 8), 8);
    all(x, "no such name in the directory", 3, 9, 0, MISSING);
  }

  private static void moduleThatIsWhole() {
    due.sentence("A module is WHOLE when it is listed and all its blocks are held.");
    Twin x = fresh();
    for (int name = 1; name < 12; name++) {
      x.make(0, name, false);
    }
    x.publish();
    for (int turn = 0; turn < 14 && x.held(0) < 6; turn++) {
      all(x, x.held(0) + " blocks of six", 0, 0, 0, WAITING);
      x.send(1);
    }
    due.is("six blocks of six", x.size(0, 0, 0), 11);
    Twin y = fresh();
    y.make(0, 1, false);
    for (int i = 0; i < 6; i++) {
      y.append(1, i);
    }
    y.publish();
    y.send(1);
    y.spoil(6, 1);
    y.send(2);
    due.is("a module of 16 bytes, the second block alone", y.held(0), 1);
    all(y, "a module of 16 bytes, the second block alone", 0, 0, 0, WAITING);
    y.send(4);
    due.is("both blocks", y.read(1, 0, 0, 5), 5);
  }

  private static void messagesOneBehindTheOther() {
    due.sentence("Its messages are read one behind the other from its first byte on");
    Twin x = fresh();
    for (int name = 1; name < 12; name++) {
      x.make(0, name, name % 3 == 0);
    }
    x.publish();
    due.is("eight messages in module 1", x.module(1), 65536 + 24);
    due.is("three messages in module 2", x.module(2), 65536 + 9);
    x.send(40);
    for (int name = 1; name < 12; name++) {
      due.is("entry " + name, x.kind(name, 0, 0), name % 3 == 0 ? 2 : 3);
    }
    Twin y = fresh();
    for (int name = 1; name < 6; name++) {
      y.make(0, name, false);
      for (int i = 0; i < name; i++) {
        y.append(name, 10 * name + i);
      }
    }
    y.publish();
    y.send(40);
    for (int name = 1; name < 6; name++) {
      due.is("file " + name + ": size", y.size(name, 0, 0), name);
      due.is("file " + name + ": first byte", y.read(name, 0, 0, 0), 10 * name);
      due.is("file " + name + ": last byte", y.read(name, 0, 0, name - 1), 11 * name - 1);
    }
  }

  private static void readWaitsForThePath() {
    due.sentence("MISSING or WAITING from the path");
    Twin x = fileChanged();
    for (int i : new int[] {Integer.MIN_VALUE, -1, 0, 11, 12, Integer.MAX_VALUE}) {
      due.is("WAITING: read(4, 9, 2, " + i + ")", x.read(4, 9, 2, i), WAITING);
      due.is("MISSING: read(4, 8, 0, " + i + ")", x.read(4, 8, 0, i), MISSING);
      due.is("MISSING: read(4, 7, 1, " + i + ")", x.read(4, 7, 1, i), MISSING);
    }
  }

  private static void refusalsComeInOrder() {
    due.sentence("At each call, what is named first is tested first");
    Twin none = fresh();
    due.is("BAD, WAITING", none.kind(256, 0, 0), BAD);
    due.is("BAD, WAITING", none.size(0, -1, 0), BAD);
    due.is("BAD, WAITING, wrong place", none.read(0, 0, 256, -1), BAD);
    due.is("WAITING, wrong place", none.read(0, 0, 0, Integer.MIN_VALUE), WAITING);
    Twin x = received();
    due.is("BAD, MISSING", x.kind(5, 0, -1), BAD);
    due.is("BAD behind a name that is not there", x.size(5, 256, 0), BAD);
    due.is("BAD behind a file", x.read(4, 7, 256, 0), BAD);
    due.is("BAD, wrong place", x.read(0, 0, -1, 99), BAD);
    due.is("MISSING path, place inside", x.read(5, 0, 0, 0), MISSING);
    Twin y = fileChanged();
    due.is("WAITING, wrong place", y.read(4, 9, 2, 12), WAITING);
    due.is("WAITING, wrong place", y.read(4, 9, 2, -1), WAITING);
    due.is("BAD, WAITING", y.kind(4, 9, 256), BAD);
  }

  private static void filesOfOneBroadcastAlone() {
    due.sentence("shows files of one broadcast alone");
    Twin x = received();
    x.empty(4);
    x.append(4, 1);
    x.remove(2);
    x.publish();
    due.is("as received", x.read(4, 9, 2, 0), 240);
    x.lose(64);
    due.is("as received", x.kind(4, 7, 0), 3);
    x.publish();
    x.send(2);
    due.is("transaction", x.transaction(), 3);
    all(x, "nothing of the old tree is left", 4, 9, 2, WAITING);
    x.send(20);
    due.is("as published", x.read(4, 9, 2, 0), 1);
    due.is("as published", x.size(4, 9, 2), 1);
    all(x, "removed", 4, 7, 0, MISSING);
  }
}
