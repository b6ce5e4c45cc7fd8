/** A receiver that is fed with forged sections, each of which must count as what is due. */
final class Forged {
  static final int LIST = 0;
  static final int BLOCK = 1;
  static final int BAD = 2;
  static final int STRANGE = 3;
  private static final Forger forger = new Forger();

  interface Feeding {
    void into(Twin x);
  }

  final Twin x;
  private final Due due;

  Forged(Due due) {
    this.due = due;
    this.x = new Twin(due);
  }

  /** Feeds a section and tells that it, and nothing else, was counted as what is due. */
  Forged feed(String what, int counted, int... section) {
    return feed(what, counted, twin -> forger.feed(twin, section));
  }

  Forged feedList(String what, int counted, int modules) {
    return feed(what, counted, twin -> forger.feedList(twin, modules));
  }

  Forged feedLongBlock(String what, int counted, int length) {
    return feed(what, counted, twin -> forger.feedLongBlock(twin, length));
  }

  private Forged feed(String what, int counted, Feeding feeding) {
    int[] before = {x.count(0), x.count(1), x.count(2), x.count(3)};
    feeding.into(x);
    for (int k = 0; k < 4; k++) {
      due.is(what + ": count(" + k + ") grew by", x.count(k) - before[k], k == counted ? 1 : 0);
    }
    return this;
  }

  /** Feeds it without looking at the counts. */
  void feedAny(int... section) {
    forger.feed(x, section);
  }

  /** For each module its size and the two bytes of its version. */
  static int[] list(int transaction, int... rows) {
    int[] inside = new int[3 + rows.length];
    inside[0] = transaction / 256;
    inside[1] = transaction % 256;
    inside[2] = rows.length / 3;
    System.arraycopy(rows, 0, inside, 3, rows.length);
    return Sections.section(59, inside);
  }

  static int[] block(int module, int version, int number, int... bytes) {
    int[] inside = new int[4 + bytes.length];
    inside[0] = module;
    inside[1] = version / 256;
    inside[2] = version % 256;
    inside[3] = number;
    System.arraycopy(bytes, 0, inside, 4, bytes.length);
    return Sections.section(60, inside);
  }
}
