import java.util.Random;

/** All promises: long runs of calls, each answer held against that of a model written apart. */
public final class ModelTest {
  private static final int RUNS = 1000;
  private static final int CALLS = 512;
  private static final int[] WILD = {
    Integer.MIN_VALUE, -65536, -1, 0, 11, 12, 15, 16, 64, 65, 255, 256, 65536, Integer.MAX_VALUE,
  };
  private static final Due due = new Due();

  private final Random random;
  private final Twin twin;
  private final int style;

  private ModelTest(int run) {
    this.twin = new Twin(due, "run " + run);
    this.style = run % 6;
    this.random = new Random(run);
  }

  public static void main(String[] args) {
    for (int run = 0; run < RUNS && due.wrongSoFar() < 20; run++) {
      ModelTest test = new ModelTest(run);
      for (int call = 0; call < CALLS && due.wrongSoFar() < 20; call++) {
        test.anyCall();
      }
    }
    due.end();
  }

  private void anyCall() {
    int dice = random.nextInt(100);
    if (dice < 8) {
      twin.make(number(12), name(), random.nextInt(style == 3 ? 3 : 2) == 0);
    } else if (dice < (style == 1 ? 13 : 10)) {
      twin.remove(number(12));
    } else if (dice < 22) {
      twin.append(number(12), random.nextInt(3) == 0 ? 255 : number(256));
    } else if (dice < 23) {
      twin.empty(number(12));
    } else if (dice < (style == 2 ? 34 : 26)) {
      twin.publish();
    } else if (dice < 60) {
      broadcast();
    } else {
      ask();
    }
  }

  private void broadcast() {
    int dice = random.nextInt(20);
    if (dice < (style == 4 ? 4 : 11)) {
      twin.send(random.nextInt(3) == 0 ? number(65) : random.nextInt(6));
    } else if (dice < (style == 4 ? 6 : 15)) {
      twin.lose(random.nextInt(3) == 0 ? 14 + random.nextInt(4) : number(8));
    } else if (dice < 19 || random.nextInt(3) > 0) {
      int i = random.nextInt(2) == 0 ? random.nextInt(5) : number(16);
      twin.spoil(i, bitsFor(i));
    } else if (style != 5) {
      twin.retune();
    }
  }

  private int bitsFor(int i) {
    if (i == 1) {
      return random.nextInt(3) == 0 ? 1 << random.nextInt(8) : random.nextInt(2) * 64;
    }
    return i == 2 ? random.nextInt(16) : number(256);
  }

  private void ask() {
    int a = name();
    int b = random.nextInt(2) == 0 ? 0 : name();
    int c = random.nextInt(2) == 0 ? 0 : name();
    int i = number(16);
    switch (random.nextInt(10)) {
      case 0: twin.modules(); break;
      case 1: twin.module(i); break;
      case 2: twin.peek(i); break;
      case 3: twin.count(random.nextInt(6)); break;
      case 4: twin.count(i); break;
      case 5: twin.transaction(); break;
      case 6: twin.held(i); break;
      case 7: twin.kind(a, b, c); break;
      case 8: twin.size(a, b, c); break;
      default: twin.read(a, b, c, i);
    }
  }

  /** Mostly a number in 0 .. below - 1, seldom one that may be far from it. */
  private int number(int below) {
    return random.nextInt(25) == 0 ? WILD[random.nextInt(WILD.length)] : random.nextInt(below);
  }

  private int name() {
    return random.nextInt(12) == 0 ? number(256) : 1 + random.nextInt(4);
  }
}
