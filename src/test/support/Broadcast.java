import java.util.ArrayList;
import java.util.Arrays;
import java.util.List;

/** One cycle as it goes on the air, and what it is made of. */
final class Broadcast {
  /** Makes an object, the same each time, whose next packet is the first one of a cycle. */
  interface Source {
    Twin publish();
  }

  private Broadcast() {
  }

  /** A packet of the cycle; from an object of its own, because one is good for 512 calls alone. */
  static int[] packet(Source source, int number) {
    Twin x = source.publish();
    for (int left = number; left > 0; left -= 64) {
      x.lose(Math.min(left, 64));
    }
    return x.nextPacket();
  }

  /** How long the sections of a cycle are, by what modules() and module() answer. */
  static List<Integer> sectionLengths(Source source) {
    Twin x = source.publish();
    List<Integer> lengths = new ArrayList<>();
    lengths.add(9 + 3 * x.modules());
    for (int m = 0; m < x.modules(); m++) {
      int size = x.module(m) & 65535;
      for (int b = 0; b * 8 < size; b++) {
        lengths.add(10 + Math.min(8, size - 8 * b));
      }
    }
    return lengths;
  }

  static List<int[]> sections(Source source) {
    int due = sectionLengths(source).size();
    List<int[]> sections = new ArrayList<>();
    List<Integer> open = new ArrayList<>();
    for (int number = 0; number < 64 && sections.size() < due; number++) {
      int[] packet = packet(source, number);
      for (int i = (packet[1] & 64) != 0 ? 3 : 2; i < 16; i++) {
        if (open.isEmpty() && packet[i] == 255) {
          break;
        }
        open.add(packet[i]);
        if (open.size() > 1 && open.size() == 2 + open.get(1)) {
          sections.add(open.stream().mapToInt(Integer::intValue).toArray());
          open.clear();
        }
      }
    }
    return sections;
  }

  /** The bytes of module m, put together from its blocks. */
  static int[] module(Source source, int m) {
    int[] bytes = new int[0];
    for (int[] section : sections(source)) {
      if (section[0] == 60 && section[2] == m) {
        int had = bytes.length;
        int count = section.length - 10;
        bytes = Arrays.copyOf(bytes, had + count);
        System.arraycopy(section, 6, bytes, had, count);
      }
    }
    return bytes;
  }
}
