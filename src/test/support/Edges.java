/** Numbers that lie outside of a range. */
final class Edges {
  private Edges() {
  }

  /** The first ones on both sides, the least and the greatest int, and some that seem inside
   *  to a program that looks at their lowest bits alone. */
  static int[] outside(int low, int high) {
    return new int[] {
      Integer.MIN_VALUE, Integer.MIN_VALUE + high, low - 256, low - 1,
      high + 1, high + 256, Integer.MAX_VALUE,
    };
  }
}
