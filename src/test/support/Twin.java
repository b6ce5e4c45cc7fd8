/** The program and the model side by side: every call goes to both, and both must answer alike. */
final class Twin {
  private static final int MOST_CALLS = 512;

  private final Due due;
  private final String label;
  private final CarouselMount x = new CarouselMount();
  private final Model model = new Model();
  private int calls = 0;

  Twin(Due due) {
    this(due, "");
  }

  Twin(Due due, String label) {
    this.due = due;
    this.label = label.isEmpty() ? "" : label + ": ";
  }

  int callsLeft() {
    return MOST_CALLS - calls;
  }

  /** What an object answers behind its 512th call is free, so no test may ask for it. */
  private void countCall() {
    calls++;
    due.isTrue(label + "at most 512 calls, this is " + calls, calls <= MOST_CALLS);
  }

  private int same(String call, int got, int want) {
    countCall();
    if (got != want) {
      due.is(label + call, got, want);
    }
    return got;
  }

  private static String call(String name, int... arguments) {
    StringBuilder text = new StringBuilder(name).append('(');
    for (int i = 0; i < arguments.length; i++) {
      text.append(i == 0 ? "" : ", ").append(arguments[i]);
    }
    return text.append(')').toString();
  }

  int make(int parent, int name, boolean directory) {
    return same(call("make", parent, name) + (directory ? " a directory" : " a file"),
        x.make(parent, name, directory), model.make(parent, name, directory));
  }

  int remove(int key) {
    return same(call("remove", key), x.remove(key), model.remove(key));
  }

  int append(int key, int value) {
    return same(call("append", key, value), x.append(key, value), model.append(key, value));
  }

  int empty(int key) {
    return same(call("empty", key), x.empty(key), model.empty(key));
  }

  int publish() {
    return same(call("publish"), x.publish(), model.publish());
  }

  int modules() {
    return same(call("modules"), x.modules(), model.modules());
  }

  int module(int m) {
    return same(call("module", m), x.module(m), model.module(m));
  }

  int peek(int i) {
    return same(call("peek", i), x.peek(i), model.peek(i));
  }

  int[] nextPacket() {
    int[] packet = new int[16];
    for (int i = 0; i < 16; i++) {
      packet[i] = peek(i);
    }
    return packet;
  }

  int send(int n) {
    return same(call("send", n), x.send(n), model.send(n));
  }

  int lose(int n) {
    return same(call("lose", n), x.lose(n), model.lose(n));
  }

  int spoil(int i, int bits) {
    return same(call("spoil", i, bits), x.spoil(i, bits), model.spoil(i, bits));
  }

  void retune() {
    countCall();
    x.retune();
    model.retune();
  }

  int count(int k) {
    return same(call("count", k), x.count(k), model.count(k));
  }

  int transaction() {
    return same(call("transaction"), x.transaction(), model.transaction());
  }

  int held(int m) {
    return same(call("held", m), x.held(m), model.held(m));
  }

  int kind(int a, int b, int c) {
    return same(call("kind", a, b, c), x.kind(a, b, c), model.kind(a, b, c));
  }

  int size(int a, int b, int c) {
    return same(call("size", a, b, c), x.size(a, b, c), model.size(a, b, c));
  }

  int read(int a, int b, int c, int i) {
    return same(call("read", a, b, c, i), x.read(a, b, c, i), model.read(a, b, c, i));
  }
}
