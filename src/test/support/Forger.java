import java.util.Arrays;

/**
 * Makes sections reach the receiver that the sender never sends. Their bytes are bytes of files:
 * some lie at the end of one packet, which is spoiled so that a section seems to begin where they
 * do, others in a packet of another publishing that the receiver takes for the next one. What is
 * thrown away later of sections that begin behind is not undone.
 */
final class Forger {
  private static final int FILE = 12;
  private static final int TAIL = 7;
  private static final int RUN = 8;
  private static final int MARK = 200;
  private static final int PAYLOAD = 14;
  private static final int BEFORE_IN_MIDST = 3;
  private static final int BEFORE_IN_LAST = 5;

  /** The lengths of the files before the one of 12 bytes, and .. */
  private static final class Place {
    final int[] lengths;
    /** .. the packet of the cycle, and the file's byte that comes first in the run there. */
    final int packet;
    final int fileByte;

    Place(int[] lengths, int packet, int fileByte) {
      this.lengths = lengths;
      this.packet = packet;
      this.fileByte = fileByte;
    }
  }

  private Place tail = null;
  /** By how many bytes of the sender's own stand in the packet before the file's. */
  private final Place[] heads = new Place[BEFORE_IN_LAST + 1];

  Forger() {
    for (int files = 1; files < 5 && !allFound(); files++) {
      for (int shape = 0; shape < Math.pow(13, files) && !allFound(); shape++) {
        int[] lengths = new int[files];
        int left = shape;
        for (int f = 0; f < files; f++) {
          lengths[f] = left % 13;
          left /= 13;
        }
        searchShape(lengths);
      }
    }
    if (!allFound()) {
      throw new IllegalStateException("no place for forged bytes");
    }
  }

  private boolean allFound() {
    boolean all = tail != null;
    for (Place head : heads) {
      all &= head != null;
    }
    return all;
  }

  private void searchShape(int[] lengths) {
    int[] marks = new int[FILE];
    for (int i = 0; i < FILE; i++) {
      marks[i] = MARK + i;
    }
    Twin x = new Twin(new Due(), "forger");
    build(x, lengths, marks);
    x.publish();
    for (int number = 0; number < 20; number++) {
      int[] packet = x.nextPacket();
      boolean start = (packet[1] & 64) != 0;
      if (tail == null && start) {
        tail = placeOf(lengths, number, markedRun(packet, 16 - TAIL, TAIL));
      }
      if (heads[0] == null) {
        heads[0] = placeOf(lengths, number, markedRun(packet, start ? 3 : 2, RUN));
      }
      for (int before = 1; before < heads.length; before++) {
        // Block 1, because the block's number must do for the size of a module in a list.
        boolean fits = before > BEFORE_IN_MIDST || packet[1 + before] == 1;
        if (heads[before] == null && !start && fits) {
          heads[before] = placeOf(lengths, number, markedRun(packet, 2 + before, RUN));
        }
      }
      x.lose(1);
    }
  }

  private static Place placeOf(int[] lengths, int packet, int mark) {
    return mark < 0 ? null : new Place(lengths, packet, mark);
  }

  /** The file's byte that comes first in a run of marks there; -1 when there is no such run. */
  private static int markedRun(int[] packet, int from, int run) {
    int mark = packet[from] - MARK;
    for (int i = 0; i < run; i++) {
      if (packet[from + i] != MARK + mark + i) {
        return -1;
      }
    }
    return mark >= 0 && mark + run <= FILE ? mark : -1;
  }

  private static void build(Twin x, int[] lengths, int[] bytes) {
    for (int key = 1; key < 12; key++) {
      x.remove(key);
    }
    for (int f = 0; f < lengths.length; f++) {
      int key = x.make(0, f + 1, false);
      for (int i = 0; i < lengths[f]; i++) {
        x.append(key, 0);
      }
    }
    write(x, x.make(0, lengths.length + 1, false), bytes);
  }

  private static void write(Twin x, int key, int[] bytes) {
    for (int value : bytes) {
      x.append(key, value);
    }
  }

  /**
   * Feeds a section of 2 to 15 bytes, or of 16 to 18 that has, from its eighth byte on, the last
   * ones of these, but for one of them at most: 0, the number of this publishing, 1.
   * The tree must hold files of the gateway alone; it is another one afterwards.
   */
  void feed(Twin x, int... section) {
    int first = Math.min(TAIL, section.length - 1);
    int counter = sendFront(x, Arrays.copyOfRange(section, 0, first));
    int[] rest = Arrays.copyOfRange(section, first, section.length);
    int before = Math.max(0, rest.length - RUN);
    Place head = heads[before];
    int[] bytes = new int[FILE];
    System.arraycopy(rest, before, bytes, head.fileByte, rest.length - before);
    build(x, head.lengths, bytes);
    int[] packet = reach(x, head, counter);
    sendMended(x, packet, (packet[1] & 64) != 0 ? 3 : 2, rest);
  }

  /** Feeds a list of transaction 5 with many modules of 1 to 48 bytes each. */
  void feedList(Twin x, int modules) {
    int[] section = new int[9 + 3 * modules];
    int[] front = {59, section.length - 2, 0, 5, modules, 1, 0};
    System.arraycopy(front, 0, section, 0, TAIL);
    int counter = sendFront(x, front);
    Place place = heads[BEFORE_IN_MIDST];
    int[] bytes = new int[FILE];
    Arrays.fill(bytes, 1);
    build(x, place.lengths, bytes);
    int done = TAIL;
    while (section.length - done > PAYLOAD) {
      int[] packet = reach(x, place, counter);
      takeOver(section, done, packet, PAYLOAD);
      sendMended(x, packet, 2, Arrays.copyOfRange(section, done, done + PAYLOAD));
      done += PAYLOAD;
      counter = counter + 1 & 15;
    }
    finish(x, section, done, counter);
  }

  /** Feeds a section with first byte 60, of 18 or 19 bytes, for block 0 of module 0, version 9. */
  void feedLongBlock(Twin x, int length) {
    int[] section = new int[length];
    int[] front = {60, length - 2, 0, 0, 9, 0, 1};
    System.arraycopy(front, 0, section, 0, TAIL);
    finish(x, section, TAIL, sendFront(x, front));
  }

  /** The bytes before the CHECK are those that the sender has there; the CHECK is the file's. */
  private void finish(Twin x, int[] section, int done, int counter) {
    Place place = heads[BEFORE_IN_LAST];
    int[] bytes = new int[FILE];
    Arrays.fill(bytes, 1);
    build(x, place.lengths, bytes);
    int transaction = x.publish() + 1;
    x.lose(place.packet);
    int[] packet = x.nextPacket();
    packet[4] = transaction / 256;
    packet[5] = transaction % 256;
    int rest = section.length - done;
    takeOver(section, done, packet, rest - 4);
    int check = Sections.check(section, section.length - 4);
    for (int i = 0; i < 4; i++) {
      int value = check >>> 24 - 8 * i & 255;
      section[section.length - 4 + i] = value;
      bytes[place.fileByte + rest - 4 + i - BEFORE_IN_LAST] = value;
    }
    int key = place.lengths.length + 1;
    x.empty(key);
    write(x, key, bytes);
    sendMended(x, reach(x, place, counter), 2,
        Arrays.copyOfRange(section, done, section.length));
  }

  /** A byte that stands where a list has a size, but would be none, becomes 1. */
  private static void takeOver(int[] section, int done, int[] packet, int count) {
    for (int i = 0; i < count; i++) {
      int value = packet[2 + i];
      boolean size = section[0] == 59 && (done + i - 5) % 3 == 0;
      section[done + i] = size && (value < 1 || value > 48) ? 1 : value;
    }
  }

  /** Sends the packet in which the section begins; answers the counter that must come next. */
  private int sendFront(Twin x, int[] front) {
    int[] bytes = new int[FILE];
    System.arraycopy(front, 0, bytes, tail.fileByte + TAIL - front.length, front.length);
    build(x, tail.lengths, bytes);
    x.publish();
    x.lose(tail.packet);
    int[] packet = x.nextPacket();
    x.spoil(2, packet[2] ^ 13 - front.length);
    return packet[1] + 1 & 15;
  }

  /** Publishes and goes on to the place's packet, so that it has the counter given. */
  private static int[] reach(Twin x, Place place, int counter) {
    x.lose(Math.floorMod(counter - place.packet - (x.peek(1) & 15), 16));
    x.publish();
    x.lose(place.packet);
    return x.nextPacket();
  }

  private static void sendMended(Twin x, int[] packet, int from, int[] want) {
    int wrongPlace = -1;
    for (int i = 0; i < want.length; i++) {
      if (packet[from + i] != want[i]) {
        if (wrongPlace >= 0) {
          throw new IllegalStateException("more than one byte would have to be spoiled");
        }
        wrongPlace = from + i;
      }
    }
    if (wrongPlace < 0) {
      x.send(1);
    } else {
      x.spoil(wrongPlace, packet[wrongPlace] ^ want[wrongPlace - from]);
    }
  }
}
