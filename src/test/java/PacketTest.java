import java.util.Arrays;
import java.util.List;

/** Promises 9 to 12 at the sender, sentence by sentence: the packets, and sending them. */
public final class PacketTest {
  private static final int BAD = CarouselMount.BAD;
  private static final int MISSING = CarouselMount.MISSING;
  private static final Due due = new Due();

  public static void main(String[] args) {
    checkOfKnownBytes();
    smallestCycle();
    listSections();
    for (int files = 0; files < 12; files++) {
      for (int bytes = 0; bytes < 13; bytes++) {
        cycleHoldsSectionsInOrder(files, bytes);
      }
    }
    cyclesAreRepeated();
    publishBreaksCycleOff();
    counterWrapsAround();
    counterCountsEveryPacket();
    packetsHaveSixteenBytes();
    controlByteHasNoOtherBits();
    noRestBehindWholeSection();
    startWithRestUpToTwelve();
    noStartWithRestAboveTwelve();
    noStartWithoutSectionToBegin();
    restOfPacketIsFilled();
    cycleBeginsWithNewPacket();
    peekShowsNextPacket();
    peekRefuses();
    sendSends();
    sendRefuses();
    loseLoses();
    loseRefuses();
    spoilChangesOneByte();
    spoilLeavesSenderAlone();
    spoilRefuses();
    refusalsComeInOrder();
    due.end();
  }

  private static Twin fresh() {
    return new Twin(due);
  }

  private static Twin files(int... lengths) {
    return Trees.files(due, lengths);
  }

  private static Twin equalFiles(int files, int bytes) {
    int[] lengths = new int[files];
    Arrays.fill(lengths, bytes);
    return files(lengths);
  }

  private static void checkOfKnownBytes() {
    due.sentence("The CHECK is four bytes, the highest first, of an int c that is -1 at first");
    int[] digits = {49, 50, 51, 52, 53, 54, 55, 56, 57};
    due.is("the tests' own CHECK of nine digits", Sections.check(digits, 9), 0x0376E6E7);
    due.is("the tests' own CHECK of nothing", Sections.check(digits, 0), -1);
    due.bytes("first packet", files(2).nextPacket(),
        71, 64, 0, 59, 10, 0, 1, 1, 12, 0, 1, 214, 83, 107, 190, 60);
  }

  private static void smallestCycle() {
    due.sentence("A BLOCK section: 60, how many bytes follow, module, its version as a pair,"
        + " number of the block, the bytes of the block, the CHECK.");
    due.bytes("first packet", Broadcast.packet(PacketTest::files, 0),
        71, 64, 0, 59, 10, 0, 1, 1, 3, 0, 1, 221, 157, 72, 19, 60);
    due.bytes("second packet", Broadcast.packet(PacketTest::files, 1),
        71, 1, 11, 0, 0, 1, 0, 1, 0, 0, 153, 160, 188, 225, 255, 255);
  }

  private static void listSections() {
    due.sentence("the LIST: 59, then how many bytes follow (so for every section), the transaction"
        + " as a pair, the number of modules, for each module its size (a byte) and its version as"
        + " a pair, then the CHECK");
    due.bytes("one module", Broadcast.sections(PacketTest::files).get(0),
        59, 10, 0, 1, 1, 3, 0, 1, 221, 157, 72, 19);
    due.bytes("two modules", Broadcast.sections(() -> files(8, 0)).get(0),
        Sections.section(59, 0, 1, 2, 22, 0, 1, 3, 0, 1));
    int[] rows = new int[3 + 36];
    rows[1] = 1;
    rows[2] = 12;
    for (int m = 0; m < 12; m++) {
      rows[3 + 3 * m] = m == 0 ? 47 : 15;
      rows[5 + 3 * m] = 1;
    }
    due.bytes("twelve modules", Broadcast.sections(() -> equalFiles(11, 12)).get(0),
        Sections.section(59, rows));
    due.bytes("versions that differ", Broadcast.sections(PacketTest::secondModuleChanged).get(0),
        Sections.section(59, 0, 2, 2, 22, 0, 1, 3, 0, 2));
  }

  private static Twin secondModuleChanged() {
    Twin x = files(8, 1);
    x.empty(2);
    x.publish();
    return x;
  }

  private static void cycleHoldsSectionsInOrder(int files, int bytes) {
    due.sentence("A CYCLE is the list, then the blocks of module 0, of module 1 and so on.");
    String what = files + " files of " + bytes + " bytes: ";
    Broadcast.Source source = () -> equalFiles(files, bytes);
    List<Integer> lengths = Broadcast.sectionLengths(source);
    List<int[]> sections = Broadcast.sections(source);
    due.is(what + "sections", sections.size(), lengths.size());
    Twin x = source.publish();
    int at = 0;
    int m = -1;
    int block = 0;
    int left = 0;
    for (int[] section : sections) {
      due.is(what + "length", section.length, lengths.get(at));
      due.bytes(what + "CHECK of", section,
          Sections.section(section[0], Arrays.copyOfRange(section, 2, section.length - 4)));
      due.is(what + "first byte", section[0], at == 0 ? 59 : 60);
      if (at > 0) {
        if (left <= 0) {
          m++;
          block = 0;
          left = x.module(m) & 65535;
        }
        due.is(what + "module", section[2], m);
        due.is(what + "version", section[3] * 256 + section[4], 1);
        due.is(what + "block", section[5], block);
        block++;
        left -= 8;
      }
      at++;
    }
  }

  private static void cyclesAreRepeated() {
    due.sentence("Cycles are repeated for ever.");
    Twin x = files(0);
    int[][] first = new int[4][];
    for (int packet = 0; packet < 4; packet++) {
      first[packet] = x.nextPacket();
      x.lose(1);
    }
    for (int turn = 0; turn < 3; turn++) {
      for (int packet = 0; packet < 4; packet++) {
        int[] again = x.nextPacket();
        due.is("start", again[1] & 64, first[packet][1] & 64);
        due.bytes("bytes", Arrays.copyOfRange(again, 2, 16),
            Arrays.copyOfRange(first[packet], 2, 16));
        x.lose(1);
      }
      x.lose(64);
    }
  }

  private static void publishBreaksCycleOff() {
    due.sentence("publish() breaks the cycle under way off: the next packet is the first one of a"
        + " cycle of what was published.");
    for (int sent = 0; sent < 5; sent++) {
      Twin x = files(0);
      x.lose(sent);
      x.append(1, 5);
      x.publish();
      due.bytes("behind " + sent + " packets", x.nextPacket(),
          expectedFirstPacket(64 + sent, 0, 2, 1, 11, 0, 2));
    }
    Twin x = files(0);
    x.lose(3);
    x.publish();
    due.bytes("of the same tree", x.nextPacket(), expectedFirstPacket(67, 0, 2, 1, 10, 0, 1));
    x.publish();
    due.bytes("twice", x.nextPacket(), expectedFirstPacket(67, 0, 3, 1, 10, 0, 1));
    int[] block = Sections.section(60, 0, 0, 2, 0, 1, 0, 0);
    for (int packet = 0; packet < 6; packet++) {
      int[] got = Broadcast.packet(PacketTest::smallBehindLarge, packet);
      int counter = 3 + packet;
      if (packet % 2 == 0) {
        due.bytes("small cycle behind a large one", got,
            expectedFirstPacket(64 + counter, 0, 2, 1, 3, 0, 2));
      } else {
        int[] want = {71, counter, 0, 0, 0, 0, 0, 0, 0, 0, 0, 0, 0, 0, 255, 255};
        System.arraycopy(block, 1, want, 2, 12);
        due.bytes("small cycle behind a large one", got, want);
      }
    }
  }

  private static Twin smallBehindLarge() {
    Twin x = files(12, 12, 12);
    x.lose(3);
    for (int key = 1; key < 4; key++) {
      x.remove(key);
    }
    x.publish();
    return x;
  }

  private static int[] expectedFirstPacket(int control, int... inside) {
    int[] packet = new int[16];
    packet[0] = 71;
    packet[1] = control;
    System.arraycopy(Sections.section(59, inside), 0, packet, 3, 12);
    packet[15] = 60;
    return packet;
  }

  private static void counterWrapsAround() {
    due.sentence("The lowest four bits of the control byte are the COUNTER, 0 for the first packet"
        + " ever sent and 1 more for each next one, 0 after 15");
    Twin x = fresh();
    x.publish();
    for (int sent = 0; sent < 50; sent++) {
      due.is("counter of packet " + sent, x.peek(1) & 15, sent % 16);
      x.send(1);
    }
    Twin y = fresh();
    y.publish();
    y.send(15);
    due.is("15", y.peek(1) & 15, 15);
    due.is("15 is no start here", y.peek(1), 15);
    y.send(1);
    due.is("0 after 15, and the start's bit is whole", y.peek(1), 64);
    y.lose(64);
    due.is("64 more", y.peek(1), 64);
    y.send(64);
    y.lose(15);
    due.is("15 again", y.peek(1), 15);
    y.spoil(3, 1);
    due.is("0 again", y.peek(1), 64);
  }

  private static void counterCountsEveryPacket() {
    due.sentence("0 for the first packet ever sent and 1 more for each next one");
    Twin x = fresh();
    x.publish();
    int sent = 0;
    for (int turn = 0; turn < 60; turn++) {
      due.is("counter of packet " + sent, x.peek(1) & 15, sent % 16);
      switch (turn % 6) {
        case 0: sent += x.send(1); break;
        case 1: sent += x.lose(2); break;
        case 2: sent += x.spoil(1, 3); break;
        case 3: x.publish(); break;
        case 4: sent += x.spoil(0, 255); break;
        default: x.retune(); break;
      }
    }
  }

  private static void packetsHaveSixteenBytes() {
    due.sentence("PACKETS have 16 bytes: 71, a CONTROL byte, and 14 bytes more.");
    Twin x = files(12, 12);
    for (int packet = 0; packet < 20; packet++) {
      due.is("first byte", x.peek(0), 71);
      for (int i = 0; i < 16; i++) {
        due.is("byte " + i + " is one", x.peek(i) & ~255, 0);
      }
      due.is("there is no byte 16", x.peek(16), MISSING);
      x.lose(1);
    }
  }

  private static void controlByteHasNoOtherBits() {
    due.sentence("the bit 64 says that it is a START; its other bits are 0");
    Twin x = files(12, 12, 3);
    for (int packet = 0; packet < 100; packet++) {
      due.is("other bits", x.peek(1) & ~79, 0);
      x.lose(1);
    }
  }

  /** A packet that is a start, with r bytes of the section under way before the next one. */
  private static void start(int number, int r, int... lengths) {
    int[] packet = Broadcast.packet(() -> files(lengths), number);
    String what = "r = " + r + ": ";
    due.is(what + "start", packet[1], 64 + number % 16);
    due.is(what + "third byte", packet[2], r);
    due.is(what + "the next section begins", packet[3 + r], number == 0 ? 59 : 60);
  }

  private static void noRestBehindWholeSection() {
    due.sentence("(0 when the packet before ended with the end of a section or the cycle begins)");
    start(0, 0, 0);
    int[] packet = Broadcast.packet(() -> files(7, 1), 4);
    due.is("14 bytes end a section with the packet", packet[1], 4);
    start(5, 0, 7, 1);
    packet = Broadcast.packet(() -> files(6, 2), 4);
    due.is("13 bytes end a section before the packet's last byte", packet[15], 255);
    start(5, 0, 6, 2);
  }

  private static void startWithRestUpToTwelve() {
    due.sentence("When r is at most 12 and the cycle has a section that has not begun, the packet"
        + " is a start: its third byte is r, then come those r bytes and then the sections that"
        + " have not begun, one right behind the other, as far as the packet goes.");
    start(0, 0, 12);
    start(5, 1, 8, 0);
    start(1, 2, 8, 0);
    start(2, 3, 0);
    start(3, 8, 7);
    start(4, 11, 4, 4);
    start(3, 12, 8, 0);
    int[] packet = Broadcast.packet(() -> files(8, 0), 3);
    due.is("r = 12: the last byte is the next section's first", packet[15], 60);
    packet = Broadcast.packet(() -> files(3, 7), 6);
    due.is("r = 1, then a section of 12 bytes: third byte", packet[2], 1);
    due.is("its first byte", packet[4], 60);
    due.is("its second byte", packet[5], 10);
  }

  /** A packet that is no start though a section has not begun: r bytes, or 14 of them. */
  private static void noStart(int number, int r, int... lengths) {
    Broadcast.Source source = () -> files(lengths);
    int[] packet = Broadcast.packet(source, number);
    int[] next = Broadcast.packet(source, number + 1);
    String what = "r = " + r + ": ";
    due.is(what + "no start", packet[1], number % 16);
    due.is(what + "fill", packet[15] == 255 ? 1 : 0, r == 13 ? 1 : 0);
    due.is(what + "the next one is a start", next[1] & 64, 64);
    due.is(what + "with what is left", next[2], Math.max(0, r - 14));
    due.is(what + "then a section begins", next[3 + next[2]], 60);
  }

  private static void noStartWithRestAboveTwelve() {
    due.sentence("Otherwise it has the r bytes, or the first 14 of them.");
    noStart(4, 13, 6, 2);
    noStart(4, 14, 7, 1);
    noStart(4, 15, 8, 0);
    noStart(4, 16, 9, 0);
    noStart(1, 17, 0);
    Broadcast.Source most = () -> equalFiles(11, 12);
    due.is("list of 45 bytes, 32 are left", Broadcast.packet(most, 1)[1], 1);
    due.is("list of 45 bytes, 18 are left", Broadcast.packet(most, 2)[1], 2);
    due.is("list of 45 bytes, 4 are left", Broadcast.packet(most, 3)[1], 64 + 3);
    due.is("list of 45 bytes, 4 are left", Broadcast.packet(most, 3)[2], 4);
  }

  /** The cycle's last packet: r bytes of its last section and nothing more. */
  private static void last(int number, int r, int... lengths) {
    Broadcast.Source source = () -> files(lengths);
    int[] packet = Broadcast.packet(source, number);
    String what = "r = " + r + ", nothing is left to begin: ";
    due.is(what + "no start", packet[1], number % 16);
    for (int i = 2 + r; i < 16; i++) {
      due.is(what + "byte " + i, packet[i], 255);
    }
    List<int[]> sections = Broadcast.sections(source);
    int[] ending = sections.get(sections.size() - 1);
    due.bytes(what + "bytes", Arrays.copyOfRange(packet, 2, 2 + r),
        Arrays.copyOfRange(ending, ending.length - r, ending.length));
    int[] next = Broadcast.packet(source, number + 1);
    due.is(what + "then a start", next[1], 64 + (number + 1) % 16);
    due.is(what + "of a cycle", next[3], 59);
  }

  private static void noStartWithoutSectionToBegin() {
    due.sentence("and the cycle has a section that has not begun");
    last(6, 1, 8, 0);
    last(3, 2, 0);
    last(3, 8, 6);
    last(4, 11, 12);
    last(1, 12);
    last(4, 13, 7, 0);
    last(8, 14, 12, 12);
  }

  private static void restOfPacketIsFilled() {
    due.sentence("What is left of a packet is filled with 255");
    int[] packet = Broadcast.packet(() -> files(8, 0), 6);
    due.bytes("one byte, then fill", Arrays.copyOfRange(packet, 3, 16),
        255, 255, 255, 255, 255, 255, 255, 255, 255, 255, 255, 255, 255);
    packet = Broadcast.packet(() -> files(6, 12, 0), 8);
    due.is("a start with the last section of 12 bytes", packet[2], 0);
    due.is("its second byte", packet[4], 10);
    due.is("one byte of fill", packet[15], 255);
    packet = Broadcast.packet(() -> files(12, 4, 0), 8);
    due.is("a start with the last section of 13 bytes", packet[2], 0);
    due.is("its second byte", packet[4], 11);
    due.isTrue("no fill", packet[15] != 255);
  }

  private static void cycleBeginsWithNewPacket() {
    due.sentence("a cycle begins with a new packet");
    int[] packet = Broadcast.packet(() -> files(6, 12, 0), 9);
    due.is("behind a byte of fill: start", packet[1], 64 + 9);
    due.is("nothing is left of the cycle before", packet[2], 0);
    due.is("list", packet[3], 59);
    packet = Broadcast.packet(() -> files(12, 4, 0), 9);
    due.is("behind a full packet: start", packet[1], 64 + 9);
    due.is("nothing is left of the cycle before", packet[2], 0);
    due.is("list", packet[3], 59);
  }

  private static void peekShowsNextPacket() {
    due.sentence("Byte i (0 .. 15) of the packet that comes next");
    Unchanged state = new Unchanged(due, () -> files(0));
    int[] first = {71, 64, 0, 59, 10, 0, 1, 1, 10, 0, 1};
    for (int i = 0; i < first.length; i++) {
      int place = i;
      state.by("peek(" + i + ")", x -> x.peek(place), first[i]);
    }
    state.by("peek(15)", x -> x.peek(15), 60);
    Twin x = files(0);
    x.send(1);
    due.is("behind it comes a packet that is no start", x.peek(1), 1);
    due.is("with the block's second byte", x.peek(2), 16);
  }

  private static void peekRefuses() {
    due.sentence("MISSING when nothing was published or i is not 0 .. 15");
    Unchanged silent = new Unchanged(due, PacketTest::fresh);
    for (int i = 0; i < 16; i++) {
      int place = i;
      silent.by("nothing published: peek(" + i + ")", x -> x.peek(place), MISSING);
    }
    Unchanged onAir = new Unchanged(due, () -> files(0));
    for (int i : Edges.outside(0, 15)) {
      silent.by("nothing published: peek(" + i + ")", x -> x.peek(i), MISSING);
      onAir.by("peek(" + i + ")", x -> x.peek(i), MISSING);
    }
  }

  private static void sendSends() {
    due.sentence("The next n packets are sent and reach the receiver as they are: n.");
    Unchanged state = new Unchanged(due, () -> files(0));
    state.by("send(0)", x -> x.send(0), 0);
    Twin x = files(0);
    due.is("send(1)", x.send(1), 1);
    due.is("one was sent", x.peek(1), 1);
    due.is("one reached the receiver", x.count(0), 1);
    due.is("send(63)", x.send(63), 63);
    due.is("64 were sent", x.peek(1), 64);
    due.is("64 reached the receiver: lists", x.count(0), 16);
    due.is("64 reached the receiver: blocks", x.count(1), 32);
    due.is("send(64)", x.send(64), 64);
    due.is("64 more reached the receiver: lists", x.count(0), 32);
    due.is("64 more reached the receiver: blocks", x.count(1), 64);
    for (int k = 2; k < 6; k++) {
      due.is("as they are: count(" + k + ")", x.count(k), 0);
    }
  }

  private static void sendRefuses() {
    due.sentence("BAD when n is not 0 .. 64; MISSING when nothing was published.");
    Unchanged silent = new Unchanged(due, PacketTest::fresh);
    Unchanged onAir = new Unchanged(due, () -> files(0));
    for (int n : Edges.outside(0, 64)) {
      silent.by("nothing published: send(" + n + ")", x -> x.send(n), BAD);
      onAir.by("send(" + n + ")", x -> x.send(n), BAD);
    }
    for (int n : new int[] {0, 1, 64}) {
      silent.by("nothing published: send(" + n + ")", x -> x.send(n), MISSING);
    }
  }

  private static void loseLoses() {
    due.sentence("The next n packets are sent and do not reach the receiver: n.");
    Unchanged state = new Unchanged(due, () -> files(0));
    state.by("lose(0)", x -> x.lose(0), 0);
    Twin x = files(0);
    due.is("lose(1)", x.lose(1), 1);
    due.is("one was sent", x.peek(1), 1);
    due.is("lose(64)", x.lose(64), 64);
    due.is("65 were sent", x.peek(1), 1);
    due.is("lose(2)", x.lose(2), 2);
    due.is("67 were sent", x.peek(1), 3);
    for (int k = 0; k < 6; k++) {
      due.is("none reached the receiver: count(" + k + ")", x.count(k), 0);
    }
    due.is("none reached the receiver", x.transaction(), MISSING);
  }

  private static void loseRefuses() {
    due.sentence("BAD when n is not 0 .. 64; MISSING when nothing was published.");
    Unchanged silent = new Unchanged(due, PacketTest::fresh);
    Unchanged onAir = new Unchanged(due, () -> files(0));
    for (int n : Edges.outside(0, 64)) {
      silent.by("nothing published: lose(" + n + ")", x -> x.lose(n), BAD);
      onAir.by("lose(" + n + ")", x -> x.lose(n), BAD);
    }
    for (int n : new int[] {0, 1, 64}) {
      silent.by("nothing published: lose(" + n + ")", x -> x.lose(n), MISSING);
    }
  }

  private static void spoilChangesOneByte() {
    due.sentence("The next packet is sent, and reaches the receiver with its byte i being changed"
        + " to byte ^ bits: 1.");
    int[] ignored = {1, 0, 0, 0, 0, 0, 0, 0, 0, 0, 0, 0, 0, 0, 0, 0};
    int[] bad = {0, 0, 0, 0, 0, 1, 1, 1, 1, 1, 1, 1, 1, 1, 1, 0};
    for (int i = 0; i < 16; i++) {
      for (int bits : new int[] {1, 128, 255}) {
        Twin x = files();
        due.is("spoil(" + i + ", " + bits + ")", x.spoil(i, bits), 1);
        due.is("one packet was sent", x.peek(1), 1);
        if (i != 1) {
          due.is("byte " + i + " ^ " + bits + ": ignored", x.count(5), ignored[i]);
        }
        if (i > 4) {
          due.is("byte " + i + " ^ " + bits + ": bad", x.count(2), bad[i]);
          due.is("byte " + i + " ^ " + bits + ": list", x.count(0), 1 - bad[i]);
        }
      }
      Twin x = files();
      due.is("spoil(" + i + ", 0)", x.spoil(i, 0), 1);
      due.is("nothing is changed: list", x.count(0), 1);
      due.is("spoil(" + i + ", 0)", x.spoil(i, 0), 1);
      due.is("nothing is changed: block", x.count(1), 1);
    }
    Twin x = files(1);
    x.send(2);
    due.is("the file's length", x.peek(13), 1);
    due.is("spoil(13, 1)", x.spoil(13, 1), 1);
    due.is("the packet behind it is sent as it is", x.send(1), 1);
    due.is("the section in which it stood is bad", x.count(2), 1);
  }

  private static void spoilLeavesSenderAlone() {
    due.sentence("The next packet is sent, and reaches the receiver with its byte i being changed");
    Twin x = files(0);
    for (int packet = 0; packet < 4; packet++) {
      x.spoil(3 + packet, 255);
    }
    due.bytes("the next cycle's first packet", x.nextPacket(),
        expectedFirstPacket(64 + 4, 0, 1, 1, 10, 0, 1));
    x.send(4);
    due.is("list", x.transaction(), 1);
    due.is("blocks", x.held(0), 2);
    due.is("file", x.kind(1, 0, 0), 3);
  }

  private static void spoilRefuses() {
    due.sentence("BAD when i is not 0 .. 15 or bits not 0 .. 255; MISSING when nothing was"
        + " published.");
    Unchanged silent = new Unchanged(due, PacketTest::fresh);
    Unchanged onAir = new Unchanged(due, () -> files(0));
    for (int i : Edges.outside(0, 15)) {
      silent.by("nothing published: spoil(" + i + ", 1)", x -> x.spoil(i, 1), BAD);
      onAir.by("spoil(" + i + ", 1)", x -> x.spoil(i, 1), BAD);
    }
    for (int bits : Edges.outside(0, 255)) {
      silent.by("nothing published: spoil(5, " + bits + ")", x -> x.spoil(5, bits), BAD);
      onAir.by("spoil(5, " + bits + ")", x -> x.spoil(5, bits), BAD);
    }
    for (int edge = 0; edge < 4; edge++) {
      int i = edge % 2 * 15;
      int bits = edge / 2 * 255;
      String what = "spoil(" + i + ", " + bits + ")";
      silent.by("nothing published: " + what, x -> x.spoil(i, bits), MISSING);
      due.is(what, files(0).spoil(i, bits), 1);
    }
  }

  private static void refusalsComeInOrder() {
    due.sentence("At each call, what is named first is tested first; a call that answers a negative"
        + " number changes nothing.");
    Twin x = fresh();
    due.is("send(65)", x.send(65), BAD);
    due.is("send(64)", x.send(64), MISSING);
    due.is("lose(-1)", x.lose(-1), BAD);
    due.is("lose(0)", x.lose(0), MISSING);
    due.is("spoil(16, 256)", x.spoil(16, 256), BAD);
    due.is("spoil(16, 0)", x.spoil(16, 0), BAD);
    due.is("spoil(0, 256)", x.spoil(0, 256), BAD);
    due.is("spoil(15, 255)", x.spoil(15, 255), MISSING);
    x.publish();
    due.is("nothing was sent", x.peek(1), 64);
    due.is("nothing was received", x.transaction(), MISSING);
  }
}
