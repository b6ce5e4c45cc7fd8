import java.util.Arrays;

/**
 * Makes any section of 2 to 15 bytes reach the receiver, though the sender sends only its own.
 * Bytes of a file lie at the end of one packet and at the head of another one; the first is
 * spoiled so that a section seems to begin where those bytes do, the second one so that its
 * counter seems to follow. What is thrown away later of sections begun behind is not undone.
 */
final class Forger {
  private static final int FILE = 12;
  private static final int TAIL = 7;
  private static final int HEAD = 8;

  /** The lengths of the files before the one of 12 bytes, and .. */
  private static final class Place {
    final int[] lengths;
    /** .. the packet of the cycle, and the file's byte that comes first in the run there. */
    final int packet;
    final int fileByte;

    Place(int[] lengths, int packet, int fileByte) {
      this.lengths = lengths;
      this.packet = packet;
      this.fileByte = fileByte;
    }
  }

  private final Place tail = search(true);
  private final Place head = search(false);

  private static Place search(boolean atTail) {
    for (int files = 1; files < 5; files++) {
      for (int shape = 0; shape < Math.pow(13, files); shape++) {
        int[] lengths = new int[files];
        int left = shape;
        for (int f = 0; f < files; f++) {
          lengths[f] = left % 13;
          left /= 13;
        }
        Place found = tryShape(lengths, atTail);
        if (found != null) {
          return found;
        }
      }
    }
    throw new IllegalStateException("no place for forged bytes");
  }

  private static Place tryShape(int[] lengths, boolean atTail) {
    int[] marks = new int[FILE];
    for (int i = 0; i < FILE; i++) {
      marks[i] = 200 + i;
    }
    Twin x = new Twin(new Due(), "forger");
    build(x, lengths, marks);
    x.publish();
    for (int packet = 0; packet < 20; packet++) {
      int mark = markedRun(x.nextPacket(), atTail);
      if (mark >= 0) {
        return new Place(lengths, packet, mark);
      }
      x.lose(1);
    }
    return null;
  }

  /** The first mark of a run at the end of a start, or at the head of any packet; else -1. */
  private static int markedRun(int[] packet, boolean atTail) {
    boolean start = (packet[1] & 64) != 0;
    if (atTail && !start) {
      return -1;
    }
    int from = atTail ? 16 - TAIL : start ? 3 : 2;
    int run = atTail ? TAIL : HEAD;
    int mark = packet[from] - 200;
    for (int i = 0; i < run; i++) {
      if (packet[from + i] != 200 + mark + i) {
        return -1;
      }
    }
    return mark >= 0 && mark + run <= FILE ? mark : -1;
  }

  private static void build(Twin x, int[] lengths, int[] bytes) {
    for (int key = 1; key < 12; key++) {
      x.remove(key);
    }
    for (int f = 0; f < lengths.length; f++) {
      int key = x.make(0, f + 1, false);
      for (int i = 0; i < lengths[f]; i++) {
        x.append(key, 0);
      }
    }
    int last = x.make(0, lengths.length + 1, false);
    for (int value : bytes) {
      x.append(last, value);
    }
  }

  /** The tree must hold files of the gateway alone; it is another one afterwards. */
  void feed(Twin x, int... section) {
    int first = Math.min(TAIL, section.length - 1);
    int[] front = new int[FILE];
    System.arraycopy(section, 0, front, tail.fileByte + TAIL - first, first);
    build(x, tail.lengths, front);
    x.publish();
    x.lose(tail.packet);
    int[] packet = x.nextPacket();
    expect(packet, 16 - first, Arrays.copyOfRange(section, 0, first));
    x.spoil(2, packet[2] ^ 13 - first);
    int due = packet[1] + 1 & 15;

    int[] back = new int[FILE];
    System.arraycopy(section, first, back, head.fileByte, section.length - first);
    build(x, head.lengths, back);
    x.publish();
    x.lose(head.packet);
    packet = x.nextPacket();
    int from = (packet[1] & 64) != 0 ? 3 : 2;
    expect(packet, from, Arrays.copyOfRange(section, first, section.length));
    x.spoil(1, (packet[1] ^ due) & 15);
  }

  private static void expect(int[] packet, int from, int[] bytes) {
    if (!Arrays.equals(Arrays.copyOfRange(packet, from, from + bytes.length), bytes)) {
      throw new IllegalStateException("the packet is not the one sought");
    }
  }
}
