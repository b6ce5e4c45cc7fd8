/** Promises 1 to 5, sentence by sentence: a new object, make, remove, append, empty. */
public final class TreeTest {
  private static final int BAD = CarouselMount.BAD;
  private static final int MISSING = CarouselMount.MISSING;
  private static final int EXISTS = CarouselMount.EXISTS;
  private static final int FULL = CarouselMount.FULL;
  private static final int NOT_EMPTY = CarouselMount.NOT_EMPTY;
  private static final Due due = new Due();

  public static void main(String[] args) {
    newTreeHasGatewayAlone();
    newSenderSentNothing();
    newReceiverHasNothing();
    newObjectsShareNothing();
    gatewayIsAlwaysThere();
    makeMakesDirectoryOrEmptyFile();
    makeTakesLeastFreeKey();
    makeRefusesNumbersOutOfRange();
    makeRefusesParentThatIsNoDirectory();
    makeRefusesNameThatIsThere();
    makeRefusesTwelfthObject();
    makeTestsInOrder();
    removeTakesOut();
    removeRefusesNumbersOutOfRange();
    removeRefusesWhatIsNotThere();
    removeRefusesDirectoryWithEntry();
    appendPutsBytesAtEnd();
    appendRefusesNumbersOutOfRange();
    appendRefusesWhatIsNoFile();
    appendRefusesThirteenthByte();
    appendTestsInOrder();
    emptyMakesEmpty();
    emptyRefusesNumbersOutOfRange();
    emptyRefusesWhatIsNoFile();
    due.end();
  }

  private static Twin fresh() {
    return new Twin(due);
  }

  private static void append(Twin x, int key, int bytes) {
    for (int i = 0; i < bytes; i++) {
      x.append(key, 10 * key + i);
    }
  }

  /** Key 1 is a directory named 1 with the file named 1 in it (key 2); key 3 is a file named 2. */
  private static Twin some() {
    Twin x = fresh();
    x.make(0, 1, true);
    x.make(1, 1, false);
    x.make(0, 2, false);
    append(x, 2, 5);
    return x;
  }

  /** Keys 1 to 11 are taken: as in some(), the file of key 3 has 12 bytes, the others are empty. */
  private static Twin full() {
    Twin x = some();
    append(x, 3, 12);
    for (int key = 4; key < 12; key++) {
      x.make(0, key, false);
    }
    return x;
  }

  private static void newTreeHasGatewayAlone() {
    due.sentence("The tree has the gateway alone");
    Twin x = fresh();
    for (int key = 1; key < 12; key++) {
      due.is("remove(" + key + ")", x.remove(key), MISSING);
      due.is("append(" + key + ", 0)", x.append(key, 0), MISSING);
      due.is("empty(" + key + ")", x.empty(key), MISSING);
      due.is("make(" + key + ", 1, true)", x.make(key, 1, true), MISSING);
    }
    due.is("publish()", x.publish(), 1);
    due.is("modules()", x.modules(), 1);
    due.is("module(0), the gateway without entries", x.module(0), 65536 + 3);
    due.is("make(0, 1, false)", x.make(0, 1, false), 1);
  }

  private static void newSenderSentNothing() {
    due.sentence("nothing was published or sent");
    Twin x = fresh();
    due.is("modules()", x.modules(), 0);
    due.is("module(0)", x.module(0), MISSING);
    for (int i = 0; i < 16; i++) {
      due.is("peek(" + i + ")", x.peek(i), MISSING);
    }
    due.is("send(0)", x.send(0), MISSING);
    due.is("lose(0)", x.lose(0), MISSING);
    due.is("spoil(0, 0)", x.spoil(0, 0), MISSING);
    due.is("publish()", x.publish(), 1);
    due.is("control byte of the first packet", x.peek(1), 64);
  }

  private static void newReceiverHasNothing() {
    due.sentence("the receiver has no list, collects nothing and has counted nothing");
    Twin x = fresh();
    due.is("transaction()", x.transaction(), MISSING);
    for (int m = 0; m < 12; m++) {
      due.is("held(" + m + ")", x.held(m), MISSING);
    }
    for (int k = 0; k < 6; k++) {
      due.is("count(" + k + ")", x.count(k), 0);
    }
    due.is("kind(0, 0, 0)", x.kind(0, 0, 0), CarouselMount.WAITING);
    x.publish();
    x.lose(1);
    due.is("a packet that is no start", x.peek(1), 1);
    x.send(1);
    x.send(1);
    due.is("nothing was looked at but the list: count(0)", x.count(0), 1);
    for (int k = 1; k < 6; k++) {
      due.is("nothing was collected: count(" + k + ")", x.count(k), 0);
    }
  }

  private static void newObjectsShareNothing() {
    due.sentence("The tree has the gateway alone; nothing was published or sent");
    Twin used = full();
    used.publish();
    used.send(64);
    Twin x = fresh();
    due.is("first key", x.make(0, 1, false), 1);
    due.is("first byte", x.append(1, 0), 1);
    due.is("modules()", x.modules(), 0);
    due.is("peek(0)", x.peek(0), MISSING);
    due.is("transaction()", x.transaction(), MISSING);
    due.is("publish()", x.publish(), 1);
    due.is("the other one is as it was", used.make(0, 12, false), FULL);
    due.is("the other one is as it was", used.publish(), 2);
  }

  private static void gatewayIsAlwaysThere() {
    due.sentence("Object 0 is the gateway, a directory, always there.");
    Unchanged[] states = {
      new Unchanged(due, TreeTest::fresh), new Unchanged(due, TreeTest::some),
      new Unchanged(due, TreeTest::full),
    };
    for (Unchanged state : states) {
      state.by("remove(0)", x -> x.remove(0), BAD);
      state.by("append(0, 1)", x -> x.append(0, 1), BAD);
      state.by("empty(0)", x -> x.empty(0), BAD);
    }
    Twin x = full();
    for (int key = 11; key > 0; key--) {
      x.remove(key);
    }
    due.is("make in it when all else is gone", x.make(0, 1, true), 1);
    x.publish();
    x.send(10);
    due.is("its kind", x.kind(0, 0, 0), 1);
    due.is("its entries", x.size(0, 0, 0), 1);
  }

  private static void makeMakesDirectoryOrEmptyFile() {
    due.sentence("Makes a directory or an empty file in the tree");
    Twin x = fresh();
    x.make(0, 1, true);
    x.make(0, 255, false);
    x.make(1, 255, false);
    x.make(1, 1, true);
    x.publish();
    x.send(20);
    due.is("gateway's entries", x.size(0, 0, 0), 2);
    due.is("least name", x.kind(1, 0, 0), 2);
    due.is("directory's entries", x.size(1, 0, 0), 2);
    due.is("greatest name", x.kind(255, 0, 0), 3);
    due.is("empty file", x.size(255, 0, 0), 0);
    due.is("file in a directory", x.kind(1, 255, 0), 3);
    due.is("directory in a directory", x.kind(1, 1, 0), 2);
    due.is("without entries", x.size(1, 1, 0), 0);

    due.is("append to a file", x.append(2, 9), 1);
    x.remove(2);
    due.is("the key is used again", x.make(0, 7, false), 2);
    due.is("and its file is empty", x.empty(2), 0);
    append(x, 2, 3);
    x.remove(2);
    due.is("as a directory", x.make(0, 7, true), 2);
    due.is("which is no file", x.empty(2), MISSING);
    due.is("which has no entry", x.remove(2), 0);
  }

  private static void makeTakesLeastFreeKey() {
    due.sentence("with the least key 1 .. 11 that no object has, and answers that key");
    Twin x = fresh();
    for (int key = 1; key < 12; key++) {
      due.is("make, key " + key, x.make(0, 256 - key, key % 2 == 0), key);
    }
    due.is("remove(11)", x.remove(11), 0);
    due.is("greatest key alone is free", x.make(0, 3, false), 11);
    due.is("remove(7)", x.remove(7), 0);
    due.is("remove(1)", x.remove(1), 0);
    due.is("remove(3)", x.remove(3), 0);
    due.is("least key is free", x.make(2, 1, true), 1);
    due.is("then the next one", x.make(1, 1, false), 3);
    due.is("then the last one", x.make(0, 4, false), 7);
    due.is("none is left", x.make(0, 5, false), FULL);
  }

  private static void makeRefusesNumbersOutOfRange() {
    due.sentence("BAD when parent is not 0 .. 11 or name not 1 .. 255");
    Unchanged state = new Unchanged(due, TreeTest::some);
    for (int parent : Edges.outside(0, 11)) {
      state.by("make(" + parent + ", 9, true)", x -> x.make(parent, 9, true), BAD);
      state.by("make(" + parent + ", 9, false)", x -> x.make(parent, 9, false), BAD);
    }
    for (int name : Edges.outside(1, 255)) {
      state.by("make(0, " + name + ", true)", x -> x.make(0, name, true), BAD);
      state.by("make(1, " + name + ", false)", x -> x.make(1, name, false), BAD);
    }
    Twin x = full();
    x.remove(11);
    due.is("make(0, 254, true)", x.make(0, 254, true), 11);
    x.remove(10);
    due.is("make(11, 1, false), the last parent and the first name", x.make(11, 1, false), 10);
    x.remove(9);
    due.is("make(11, 255, false), the last name", x.make(11, 255, false), 9);
    x.remove(8);
    due.is("make(0, 255, false), the first parent", x.make(0, 255, false), 8);
  }

  private static void makeRefusesParentThatIsNoDirectory() {
    due.sentence("MISSING when parent is no directory of the tree");
    Unchanged state = new Unchanged(due, TreeTest::some);
    state.by("make(2, 9, true) in a file", x -> x.make(2, 9, true), MISSING);
    state.by("make(3, 9, false) in a file", x -> x.make(3, 9, false), MISSING);
    for (int key = 4; key < 12; key++) {
      int parent = key;
      state.by("make(" + key + ", 9, true) in none", x -> x.make(parent, 9, true), MISSING);
    }
    Twin x = some();
    x.remove(2);
    x.remove(1);
    due.is("in a directory that was removed", x.make(1, 9, true), MISSING);
    due.is("a file with that key", x.make(0, 1, false), 1);
    due.is("in that file", x.make(1, 9, true), MISSING);
  }

  private static void makeRefusesNameThatIsThere() {
    due.sentence("EXISTS when it has that name");
    Unchanged state = new Unchanged(due, TreeTest::some);
    state.by("a file with a directory's name", x -> x.make(0, 1, false), EXISTS);
    state.by("a directory with a directory's name", x -> x.make(0, 1, true), EXISTS);
    state.by("a directory with a file's name", x -> x.make(0, 2, true), EXISTS);
    state.by("a file with a file's name", x -> x.make(1, 1, false), EXISTS);
    Twin x = some();
    due.is("a name of the gateway in a directory", x.make(1, 2, false), 4);
    x.remove(3);
    due.is("a name that was removed", x.make(0, 2, true), 3);
    due.is("a name that an empty directory has not", x.make(3, 2, true), 5);
    due.is("the greatest name", x.make(0, 255, true), 6);
    due.is("the greatest name twice", x.make(0, 255, true), EXISTS);
    Twin y = full();
    y.remove(5);
    due.is("a name that was removed is free", y.make(1, 5, true), 5);
    y.remove(4);
    for (int key = 6; key < 12; key++) {
      due.is("the name of key " + key, y.make(0, key, true), EXISTS);
    }
  }

  private static void makeRefusesTwelfthObject() {
    due.sentence("FULL when all keys are taken");
    Unchanged state = new Unchanged(due, TreeTest::full);
    state.by("make(0, 99, true)", x -> x.make(0, 99, true), FULL);
    state.by("make(0, 99, false)", x -> x.make(0, 99, false), FULL);
    state.by("make(1, 99, false)", x -> x.make(1, 99, false), FULL);
    Twin x = full();
    x.remove(6);
    due.is("one key is free", x.make(1, 99, false), 6);
    due.is("none is", x.make(1, 98, false), FULL);
  }

  private static void makeTestsInOrder() {
    due.sentence("At each call, what is named first is tested first");
    Twin x = some();
    due.is("BAD name, MISSING parent", x.make(11, 0, true), BAD);
    due.is("BAD name, parent is a file", x.make(3, 256, true), BAD);
    due.is("MISSING parent, the gateway has that name", x.make(3, 1, true), MISSING);
    Twin y = full();
    due.is("BAD parent, FULL", y.make(12, 99, true), BAD);
    due.is("BAD parent, the gateway has that name", y.make(-1, 1, true), BAD);
    due.is("BAD name, FULL", y.make(0, 0, true), BAD);
    due.is("BAD name, FULL", y.make(0, 256, true), BAD);
    due.is("MISSING, FULL", y.make(2, 99, true), MISSING);
    due.is("EXISTS, FULL", y.make(0, 1, true), EXISTS);
    due.is("EXISTS, FULL", y.make(1, 1, false), EXISTS);
  }

  private static void removeTakesOut() {
    due.sentence("Takes an object out of the tree: 0");
    Twin x = full();
    for (int key = 11; key > 0; key--) {
      due.is("remove(" + key + ")", x.remove(key), 0);
      due.is("remove(" + key + ") again", x.remove(key), MISSING);
      due.is("append to it", x.append(key, 1), MISSING);
      due.is("empty it", x.empty(key), MISSING);
      due.is("make in it", x.make(key, 1, false), MISSING);
    }
    x.publish();
    due.is("the gateway is always there", x.module(0), 65536 + 3);
    Twin y = full();
    y.remove(5);
    y.publish();
    due.is("the gateway has an entry less", y.module(0), 65536 + 3 + 4 * 9);
  }

  private static void removeRefusesNumbersOutOfRange() {
    due.sentence("BAD when key is not 1 .. 11");
    Unchanged state = new Unchanged(due, TreeTest::some);
    for (int key : Edges.outside(1, 11)) {
      state.by("remove(" + key + ")", x -> x.remove(key), BAD);
    }
    due.is("remove(1) of an empty tree", fresh().remove(1), MISSING);
    due.is("remove(11) of an empty tree", fresh().remove(11), MISSING);
    due.is("remove(0) of an empty gateway", fresh().remove(0), BAD);
  }

  private static void removeRefusesWhatIsNotThere() {
    due.sentence("MISSING when there is none");
    Unchanged state = new Unchanged(due, TreeTest::some);
    for (int key = 4; key < 12; key++) {
      int none = key;
      state.by("remove(" + key + ")", x -> x.remove(none), MISSING);
    }
  }

  private static void removeRefusesDirectoryWithEntry() {
    due.sentence("NOT_EMPTY when it is a directory with an entry");
    Unchanged state = new Unchanged(due, TreeTest::some);
    state.by("remove(1)", x -> x.remove(1), NOT_EMPTY);
    Twin x = some();
    due.is("a file with bytes", x.remove(2), 0);
    due.is("a directory without an entry", x.remove(1), 0);
    Twin y = fresh();
    y.make(0, 1, true);
    y.make(1, 2, true);
    due.is("a directory in it", y.remove(1), NOT_EMPTY);
    due.is("that directory", y.remove(2), 0);
    due.is("then the first", y.remove(1), 0);
    Twin z = fresh();
    for (int key = 1; key < 12; key++) {
      z.make(key - 1, 1, true);
    }
    for (int key = 1; key < 11; key++) {
      due.is("a chain of directories, " + key, z.remove(key), NOT_EMPTY);
    }
    due.is("its end", z.remove(11), 0);
    due.is("its end then", z.remove(10), 0);
  }

  private static void appendPutsBytesAtEnd() {
    due.sentence("Puts a byte at the end of a file of the tree and answers how many it has then");
    Twin x = fresh();
    x.make(0, 1, false);
    x.make(0, 2, false);
    for (int length = 1; length <= 12; length++) {
      due.is("append, length " + length, x.append(1, 20 + length), length);
    }
    due.is("another file", x.append(2, 255), 1);
    due.is("another file", x.append(2, 0), 2);
    x.publish();
    x.send(20);
    for (int i = 0; i < 12; i++) {
      due.is("byte " + i, x.read(1, 0, 0, i), 21 + i);
    }
    due.is("greatest byte", x.read(2, 0, 0, 0), 255);
    due.is("least byte", x.read(2, 0, 0, 1), 0);
    due.is("size", x.size(2, 0, 0), 2);
  }

  private static void appendRefusesNumbersOutOfRange() {
    due.sentence("BAD when key is not 1 .. 11 or value not 0 .. 255");
    Unchanged state = new Unchanged(due, TreeTest::some);
    for (int key : Edges.outside(1, 11)) {
      state.by("append(" + key + ", 1)", x -> x.append(key, 1), BAD);
    }
    for (int value : Edges.outside(0, 255)) {
      state.by("append(3, " + value + ")", x -> x.append(3, value), BAD);
    }
    Twin x = fresh();
    for (int key = 1; key < 12; key++) {
      x.make(0, key, false);
    }
    due.is("append(1, 0)", x.append(1, 0), 1);
    due.is("append(1, 255)", x.append(1, 255), 2);
    due.is("append(11, 255)", x.append(11, 255), 1);
    due.is("append(11, 0)", x.append(11, 0), 2);
  }

  private static void appendRefusesWhatIsNoFile() {
    due.sentence("MISSING when key is no file of the tree");
    Unchanged state = new Unchanged(due, TreeTest::some);
    state.by("append(1, 1) to a directory", x -> x.append(1, 1), MISSING);
    state.by("append(4, 1) to none", x -> x.append(4, 1), MISSING);
    state.by("append(11, 1) to none", x -> x.append(11, 1), MISSING);
  }

  private static void appendRefusesThirteenthByte() {
    due.sentence("FULL when it has 12");
    Unchanged state = new Unchanged(due, TreeTest::full);
    state.by("append(3, 0)", x -> x.append(3, 0), FULL);
    state.by("append(3, 255)", x -> x.append(3, 255), FULL);
    Twin x = full();
    due.is("another file", x.append(2, 0), 6);
    x.empty(3);
    due.is("when it is empty again", x.append(3, 0), 1);
  }

  private static void appendTestsInOrder() {
    due.sentence("At each call, what is named first is tested first");
    Twin x = full();
    due.is("BAD value, no file", x.append(1, 256), BAD);
    due.is("BAD value, FULL", x.append(3, 256), BAD);
    due.is("BAD value, FULL", x.append(3, -1), BAD);
    due.is("BAD key and value", x.append(0, -1), BAD);
    due.is("BAD value, no object", some().append(11, -1), BAD);
  }

  private static void emptyMakesEmpty() {
    due.sentence("Makes a file of the tree empty and answers how many bytes it had");
    Twin x = full();
    due.is("it had 12", x.empty(3), 12);
    due.is("it had none", x.empty(3), 0);
    due.is("it has one then", x.append(3, 7), 1);
    due.is("it had one", x.empty(3), 1);
    due.is("another file is as it was", x.empty(2), 5);
    x.append(3, 99);
    x.publish();
    x.send(30);
    due.is("size", x.size(2, 0, 0), 1);
    due.is("byte", x.read(2, 0, 0, 0), 99);
    due.is("no byte of before", x.read(2, 0, 0, 1), MISSING);
  }

  private static void emptyRefusesNumbersOutOfRange() {
    due.sentence("BAD when key is not 1 .. 11");
    Unchanged state = new Unchanged(due, TreeTest::some);
    for (int key : Edges.outside(1, 11)) {
      state.by("empty(" + key + ")", x -> x.empty(key), BAD);
    }
    Twin x = full();
    due.is("empty(11)", x.empty(11), 0);
    due.is("empty(1) of a file", oneFile().empty(1), 0);
  }

  private static Twin oneFile() {
    Twin x = fresh();
    x.make(0, 1, false);
    return x;
  }

  private static void emptyRefusesWhatIsNoFile() {
    due.sentence("MISSING when key is no file of the tree");
    Unchanged state = new Unchanged(due, TreeTest::some);
    state.by("empty(1) of a directory", x -> x.empty(1), MISSING);
    state.by("empty(4) of none", x -> x.empty(4), MISSING);
    state.by("empty(11) of none", x -> x.empty(11), MISSING);
  }
}
