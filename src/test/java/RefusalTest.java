/**
 * All promises: a call that answers a negative number has changed nothing, nor has a call that
 * only asks; in each of several states, at the edges of each number's range.
 */
public final class RefusalTest {
  private static final int LEAST = Integer.MIN_VALUE;
  private static final int GREATEST = Integer.MAX_VALUE;
  private static final int[] KEYS = {LEAST, -1, 0, 1, 2, 3, 10, 11, 12, GREATEST};
  private static final int[] NAMES = {LEAST, -1, 0, 1, 2, 9, 255, 256, GREATEST};
  private static final int[] BYTES = {LEAST, -1, 0, 255, 256, GREATEST};
  private static final int[] PACKETS = {LEAST, -1, 0, 1, 64, 65, GREATEST};
  private static final int[] PLACES = {LEAST, -1, 0, 11, 12, 15, 16, GREATEST};
  private static final Due due = new Due();

  public static void main(String[] args) {
    due.sentence("a call that answers a negative number changes nothing");
    Unchanged.State[] states = {
      RefusalTest::fresh, RefusalTest::some, RefusalTest::full, RefusalTest::published,
      RefusalTest::collecting, RefusalTest::received, RefusalTest::oneBehind,
      RefusalTest::retuned,
    };
    for (Unchanged.State state : states) {
      Unchanged unchanged = new Unchanged(due, state);
      treeCalls(unchanged);
      senderCalls(unchanged);
      questions(unchanged);
      pathQuestions(unchanged);
    }
    due.end();
  }

  private static Twin fresh() {
    return new Twin(due);
  }

  /** A directory 1 with the file 1 in it, and a file 2. */
  private static Twin some() {
    Twin x = fresh();
    x.make(0, 1, true);
    x.make(1, 1, false);
    x.make(0, 2, false);
    for (int i = 0; i < 5; i++) {
      x.append(2, 50 + i);
    }
    return x;
  }

  /** No key is free, and the file 2 has twelve bytes. */
  private static Twin full() {
    Twin x = some();
    for (int i = 0; i < 12; i++) {
      x.append(3, 70 + i);
    }
    for (int key = 4; key < 12; key++) {
      x.make(0, key, false);
    }
    return x;
  }

  private static Twin published() {
    Twin x = some();
    x.publish();
    return x;
  }

  private static Twin collecting() {
    Twin x = published();
    x.send(3);
    return x;
  }

  private static Twin received() {
    Twin x = published();
    x.send(20);
    return x;
  }

  /** The receiver has a tree that is no longer the published one, and that one is changed too. */
  private static Twin oneBehind() {
    Twin x = received();
    x.append(3, 1);
    x.publish();
    x.remove(3);
    x.lose(2);
    x.send(1);
    return x;
  }

  private static Twin retuned() {
    Twin x = received();
    x.retune();
    return x;
  }

  private static void treeCalls(Unchanged unchanged) {
    for (int key : KEYS) {
      for (int name : NAMES) {
        unchanged.ifNegative("make(" + key + ", " + name + ", true)",
            x -> x.make(key, name, true));
        unchanged.ifNegative("make(" + key + ", " + name + ", false)",
            x -> x.make(key, name, false));
      }
      for (int value : BYTES) {
        unchanged.ifNegative("append(" + key + ", " + value + ")", x -> x.append(key, value));
      }
      unchanged.ifNegative("remove(" + key + ")", x -> x.remove(key));
      unchanged.ifNegative("empty(" + key + ")", x -> x.empty(key));
    }
  }

  private static void senderCalls(Unchanged unchanged) {
    for (int n : PACKETS) {
      unchanged.ifNegative("send(" + n + ")", x -> x.send(n));
      unchanged.ifNegative("lose(" + n + ")", x -> x.lose(n));
    }
    for (int i : PLACES) {
      for (int bits : BYTES) {
        unchanged.ifNegative("spoil(" + i + ", " + bits + ")", x -> x.spoil(i, bits));
      }
    }
    unchanged.always("send(0)", x -> x.send(0));
    unchanged.always("lose(0)", x -> x.lose(0));
  }

  private static void questions(Unchanged unchanged) {
    unchanged.always("modules()", Twin::modules);
    unchanged.always("transaction()", Twin::transaction);
    for (int i : PLACES) {
      unchanged.always("module(" + i + ")", x -> x.module(i));
      unchanged.always("peek(" + i + ")", x -> x.peek(i));
      unchanged.always("count(" + i + ")", x -> x.count(i));
      unchanged.always("held(" + i + ")", x -> x.held(i));
    }
  }

  private static void pathQuestions(Unchanged unchanged) {
    for (int a : NAMES) {
      for (int b : NAMES) {
        unchanged.always("kind(" + a + ", " + b + ", 0)", x -> x.kind(a, b, 0));
        unchanged.always("size(" + a + ", " + b + ", 0)", x -> x.size(a, b, 0));
        unchanged.always("read(" + a + ", " + b + ", 0, 0)", x -> x.read(a, b, 0, 0));
      }
      unchanged.always("kind(1, 1, " + a + ")", x -> x.kind(1, 1, a));
      unchanged.always("read(1, 1, 0, " + a + ")", x -> x.read(1, 1, 0, a));
    }
  }
}
