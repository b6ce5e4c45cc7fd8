import java.util.Arrays;

/** Holds each answer against the one that is due, and tells the wrong ones. */
final class Due {
  private int wrong = 0;
  private String words = "";

  /** The document's words that the answers from here on are held against. */
  void sentence(String ofDocument) {
    words = "'" + ofDocument + "': ";
  }

  void is(String call, long got, long want) {
    if (got != want) {
      wrong++;
      System.out.println(words + call + " answered " + got + ", due is " + want);
    }
  }

  void isTrue(String what, boolean holds) {
    if (!holds) {
      wrong++;
      System.out.println(words + "does not hold: " + what);
    }
  }

  void bytes(String what, int[] got, int... want) {
    isTrue(what + " " + Arrays.toString(got) + ", due is " + Arrays.toString(want),
        Arrays.equals(got, want));
  }

  int wrongSoFar() {
    return wrong;
  }

  void end() {
    if (wrong != 0) {
      System.out.println(wrong + " answers are not as due");
      System.exit(1);
    }
  }
}
