import java.util.zip.CRC32;

/** Sections as a test writes them. */
final class Sections {
  private Sections() {
  }

  /** The CHECK by way of the library's CRC32, which is the same one with all bits mirrored. */
  static int check(int[] bytes, int end) {
    CRC32 mirrored = new CRC32();
    for (int i = 0; i < end; i++) {
      mirrored.update(Integer.reverse(bytes[i]) >>> 24);
    }
    return ~Integer.reverse((int) mirrored.getValue());
  }

  /** A whole section: the tag, the length that is right, the bytes given, the CHECK that is due. */
  static int[] section(int tag, int... inside) {
    int[] all = new int[inside.length + 6];
    all[0] = tag;
    all[1] = inside.length + 4;
    System.arraycopy(inside, 0, all, 2, inside.length);
    int end = inside.length + 2;
    int check = check(all, end);
    for (int i = 0; i < 4; i++) {
      all[end + i] = check >>> 24 - 8 * i & 255;
    }
    return all;
  }
}
