import java.util.ArrayList;
import java.util.Arrays;
import java.util.List;

/** Promises 9 to 12 on the sender's side: peek, send, lose, spoil, and what the packets hold. */
public final class PacketTest {
  private static final int[] WILD = {Integer.MIN_VALUE, -1, 65, 256, Integer.MAX_VALUE};
  private static final Due due = new Due();

  public static void main(String[] args) {
    nothingPublished();
    ranges();
    countersRunOn();
    peekChangesNothing();
    smallestCycle();
    for (int files = 0; files < 12; files++) {
      for (int bytes = 0; bytes < 13; bytes++) {
        cycleHoldsSectionsInOrder(files, bytes);
      }
    }
    publishBreaksCycleOff();
    due.end();
  }

  private static void nothingPublished() {
    CarouselMount x = new CarouselMount();
    due.is("send(0)", x.send(0), CarouselMount.MISSING);
    due.is("send(64)", x.send(64), CarouselMount.MISSING);
    due.is("send(65)", x.send(65), CarouselMount.BAD);
    due.is("lose(0)", x.lose(0), CarouselMount.MISSING);
    due.is("lose(64)", x.lose(64), CarouselMount.MISSING);
    due.is("lose(-1)", x.lose(-1), CarouselMount.BAD);
    due.is("spoil(0, 0)", x.spoil(0, 0), CarouselMount.MISSING);
    due.is("spoil(16, 0)", x.spoil(16, 0), CarouselMount.BAD);
    due.is("spoil(0, 256)", x.spoil(0, 256), CarouselMount.BAD);
    x.publish();
    due.is("nothing was sent", x.peek(1), 64);
  }

  private static void ranges() {
    CarouselMount x = new CarouselMount();
    x.publish();
    for (int wild : WILD) {
      due.is("send(" + wild + ")", x.send(wild), CarouselMount.BAD);
      due.is("lose(" + wild + ")", x.lose(wild), CarouselMount.BAD);
      due.is("spoil(" + wild + ", 1)", x.spoil(wild, 1), CarouselMount.BAD);
      due.is("peek(" + wild + ")", x.peek(wild), CarouselMount.MISSING);
    }
    due.is("peek(16)", x.peek(16), CarouselMount.MISSING);
    due.is("spoil(16, 1)", x.spoil(16, 1), CarouselMount.BAD);
    due.is("spoil(0, -1)", x.spoil(0, -1), CarouselMount.BAD);
    due.is("spoil(0, 256)", x.spoil(0, 256), CarouselMount.BAD);
    due.is("refused calls send nothing", x.peek(1), 64);
    due.is("send(0)", x.send(0), 0);
    due.is("lose(0)", x.lose(0), 0);
    due.is("none sends nothing", x.peek(1), 64);
    due.is("send(64)", x.send(64), 64);
    due.is("lose(64)", x.lose(64), 64);
    due.is("spoil(15, 255)", x.spoil(15, 255), 1);
    due.is("129 were sent", x.peek(1) & 15, 1);
  }

  private static void countersRunOn() {
    CarouselMount x = new CarouselMount();
    x.publish();
    int sent = 0;
    for (int turn = 0; turn < 60; turn++) {
      due.is("counter of packet " + sent, x.peek(1) & 15, sent % 16);
      due.is("sync", x.peek(0), 71);
      switch (turn % 5) {
        case 0: sent += x.send(1); break;
        case 1: sent += x.lose(2); break;
        case 2: sent += x.spoil(1, 3); break;
        case 3: x.publish(); break;
        default: x.retune(); break;
      }
    }
  }

  private static void peekChangesNothing() {
    CarouselMount x = new CarouselMount();
    x.make(0, 1, false);
    x.publish();
    for (int turn = 0; turn < 8; turn++) {
      int[] first = Sections.nextPacket(x);
      due.isTrue("peeked twice", Arrays.equals(first, Sections.nextPacket(x)));
      x.make(0, 2 + turn, false);
      due.isTrue("tree changed", Arrays.equals(first, Sections.nextPacket(x)));
      x.send(1);
    }
  }

  private static void smallestCycle() {
    CarouselMount x = new CarouselMount();
    x.publish();
    // The list has 12 bytes, so the only block's first byte still goes into the first packet.
    int[] list = Sections.section(59, 0, 1, 1, 3, 0, 1);
    int[] block = Sections.section(60, 0, 0, 1, 0, 1, 0, 0);
    for (int cycle = 0; cycle < 3; cycle++) {
      int[] first = Sections.nextPacket(x);
      due.is("start", first[1], 64 + 2 * cycle);
      due.is("nothing is left over", first[2], 0);
      due.isTrue("list", Arrays.equals(Arrays.copyOfRange(first, 3, 15), list));
      due.is("block's first byte", first[15], block[0]);
      x.send(1);
      int[] second = Sections.nextPacket(x);
      due.is("no start, for no section is left to begin", second[1], 2 * cycle + 1);
      due.isTrue("block", Arrays.equals(Arrays.copyOfRange(second, 2, 14),
          Arrays.copyOfRange(block, 1, 13)));
      due.is("filled", second[14], 255);
      due.is("filled", second[15], 255);
      x.send(1);
    }
  }

  /** Takes one cycle apart by the rule of the packets and holds it against the sections due. */
  private static void cycleHoldsSectionsInOrder(int files, int bytes) {
    CarouselMount x = published(files, bytes);
    String what = files + " files of " + bytes + " bytes: ";
    List<int[]> sections = splitCycle(files, bytes, what);
    List<Integer> lengths = sectionLengths(x);
    due.is(what + "sections", sections.size(), lengths.size());
    if (sections.size() != lengths.size()) {
      return;
    }
    checkList(x, sections.get(0), what);
    int at = 1;
    for (int m = 0; m < x.modules(); m++) {
      int size = x.module(m) & 65535;
      for (int b = 0; b * 8 < size; b++) {
        int[] section = sections.get(at++);
        due.is(what + "block's tag", section[0], 60);
        due.is(what + "block's length", section[1], section.length - 2);
        due.is(what + "block's module", section[2], m);
        due.is(what + "block's version", section[3] * 256 + section[4], 1);
        due.is(what + "block's number", section[5], b);
        due.isTrue(what + "block's check", hasCheck(section));
      }
    }
    x.send(1);
    due.is(what + "the list reaches the receiver only whole",
        x.count(0), sections.get(0).length <= 13 ? 1 : 0);
  }

  private static CarouselMount published(int files, int bytes) {
    CarouselMount x = new CarouselMount();
    for (int key = 1; key <= files; key++) {
      x.make(0, key, false);
      for (int i = 0; i < bytes; i++) {
        x.append(key, 60);
      }
    }
    x.publish();
    return x;
  }

  private static List<int[]> splitCycle(int files, int bytes, String what) {
    List<Integer> lengths = sectionLengths(published(files, bytes));
    List<int[]> sections = new ArrayList<>();
    List<Integer> open = new ArrayList<>();
    for (int turn = 0; turn < 64 && sections.size() < lengths.size(); turn++) {
      // A new object for each packet, because one is good for 512 calls alone.
      CarouselMount x = published(files, bytes);
      x.lose(turn);
      int[] packet = Sections.nextPacket(x);
      due.is(what + "counter", packet[1] & 15, turn % 16);
      int rest = open.isEmpty() ? 0 : lengths.get(sections.size()) - open.size();
      boolean unbegun = sections.size() + (open.isEmpty() ? 0 : 1) < lengths.size();
      boolean start = (packet[1] & 64) != 0;
      due.is(what + "start", start ? 1 : 0, rest <= 12 && unbegun ? 1 : 0);
      if (start) {
        due.is(what + "rest", packet[2], rest);
      }
      for (int i = start ? 3 : 2; i < 16; i++) {
        if (open.isEmpty() && (!start || sections.size() == lengths.size())) {
          due.is(what + "fill", packet[i], 255);
          continue;
        }
        open.add(packet[i]);
        if (open.size() == lengths.get(sections.size())) {
          sections.add(open.stream().mapToInt(Integer::intValue).toArray());
          open.clear();
        }
      }
    }
    return sections;
  }

  private static List<Integer> sectionLengths(CarouselMount x) {
    List<Integer> lengths = new ArrayList<>();
    lengths.add(9 + 3 * x.modules());
    for (int m = 0; m < x.modules(); m++) {
      int size = x.module(m) & 65535;
      for (int b = 0; b * 8 < size; b++) {
        lengths.add(10 + Math.min(8, size - 8 * b));
      }
    }
    return lengths;
  }

  private static void checkList(CarouselMount x, int[] list, String what) {
    due.is(what + "list's tag", list[0], 59);
    due.is(what + "list's length", list[1], 7 + 3 * x.modules());
    due.is(what + "list's transaction", list[2] * 256 + list[3], 1);
    due.is(what + "list's modules", list[4], x.modules());
    for (int m = 0; m < x.modules(); m++) {
      int row = 5 + 3 * m;
      due.is(what + "listed module " + m,
          65536 * (list[row + 1] * 256 + list[row + 2]) + list[row], x.module(m));
    }
    due.isTrue(what + "list's check", hasCheck(list));
  }

  private static boolean hasCheck(int[] section) {
    int[] inside = Arrays.copyOfRange(section, 2, section.length - 4);
    return Arrays.equals(section, Sections.section(section[0], inside));
  }

  private static void publishBreaksCycleOff() {
    CarouselMount x = new CarouselMount();
    x.make(0, 1, false);
    x.publish();
    x.lose(2);
    due.is("in the midst of a cycle", x.peek(3) == 59 ? 1 : 0, 0);
    x.publish();
    int[] packet = Sections.nextPacket(x);
    due.is("start, and the counter goes on", packet[1], 64 + 2);
    due.is("nothing is left over", packet[2], 0);
    due.is("list", packet[3], 59);
    due.is("transaction", packet[6], 2);
  }
}
