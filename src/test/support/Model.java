import java.util.ArrayList;
import java.util.Arrays;
import java.util.HashMap;
import java.util.List;
import java.util.Map;
import java.util.TreeMap;

/**
 * The document once more, in another form than the program's: objects and collections in place of
 * rows, all packets of a cycle made when it is published, a section judged from a list of bytes.
 */
final class Model {
  private static final int BAD = -1;
  private static final int MISSING = -2;
  private static final int EXISTS = -3;
  private static final int FULL = -4;
  private static final int NOT_EMPTY = -5;
  private static final int WAITING = -6;

  private static final class Node {
    final int key;
    final int kind;
    final Node parent;
    final int name;
    final TreeMap<Integer, Node> entries = new TreeMap<>();
    final List<Integer> bytes = new ArrayList<>();
    int module;

    Node(int key, int kind, Node parent, int name) {
      this.key = key;
      this.kind = kind;
      this.parent = parent;
      this.name = name;
    }

    int length() {
      return kind == 3 ? bytes.size() : 4 * entries.size();
    }
  }

  private static final class Listed {
    final int size;
    final int version;
    final Map<Integer, List<Integer>> blocks = new HashMap<>();

    Listed(int size, int version) {
      this.size = size;
      this.version = version;
    }

    List<Integer> bytesIfWhole() {
      List<Integer> all = new ArrayList<>();
      for (int b = 0; 8 * b < size; b++) {
        if (!blocks.containsKey(b)) {
          return null;
        }
        all.addAll(blocks.get(b));
      }
      return all;
    }
  }

  private static final class Answer extends RuntimeException {
    private static final long serialVersionUID = 1L;
    final int value;

    Answer(int value) {
      super(null, null, false, false);
      this.value = value;
    }
  }

  private final Map<Integer, Node> nodes = new HashMap<>();
  private int published = 0;
  private List<List<Integer>> moduleBytes = new ArrayList<>();
  private List<Integer> versions = new ArrayList<>();
  private List<int[]> packets = new ArrayList<>();
  private int nextPacket = 0;
  private int sent = 0;

  private Map<Integer, Listed> listed = new HashMap<>();
  private int receivedTransaction = MISSING;
  private List<Integer> collecting = null;
  private int lastCounter = -1;
  private int[] counts = new int[6];

  Model() {
    nodes.put(0, new Node(0, 1, null, 0));
  }

  int make(int parent, int name, boolean directory) {
    if (parent < 0 || parent > 11 || name < 1 || name > 255) {
      return BAD;
    }
    Node above = nodes.get(parent);
    if (above == null || above.kind == 3) {
      return MISSING;
    }
    if (above.entries.containsKey(name)) {
      return EXISTS;
    }
    int key = 1;
    while (nodes.containsKey(key)) {
      key++;
    }
    if (key > 11) {
      return FULL;
    }
    Node made = new Node(key, directory ? 2 : 3, above, name);
    nodes.put(key, made);
    above.entries.put(name, made);
    return key;
  }

  int remove(int key) {
    if (key < 1 || key > 11) {
      return BAD;
    }
    Node node = nodes.get(key);
    if (node == null) {
      return MISSING;
    }
    if (!node.entries.isEmpty()) {
      return NOT_EMPTY;
    }
    nodes.remove(key);
    node.parent.entries.remove(node.name);
    return 0;
  }

  int append(int key, int value) {
    if (key < 1 || key > 11 || value < 0 || value > 255) {
      return BAD;
    }
    Node node = nodes.get(key);
    if (node == null || node.kind != 3) {
      return MISSING;
    }
    if (node.bytes.size() == 12) {
      return FULL;
    }
    node.bytes.add(value);
    return node.bytes.size();
  }

  int empty(int key) {
    if (key < 1 || key > 11) {
      return BAD;
    }
    Node node = nodes.get(key);
    if (node == null || node.kind != 3) {
      return MISSING;
    }
    int had = node.bytes.size();
    node.bytes.clear();
    return had;
  }

  int publish() {
    published++;
    List<Node> order = new ArrayList<>();
    visit(nodes.get(0), order);
    int module = -1;
    int filled = 0;
    for (Node node : order) {
      int needs = 3 + node.length();
      if (module < 0 || filled + needs > 24) {
        module++;
        filled = 0;
      }
      filled += needs;
      node.module = module;
    }
    List<List<Integer>> made = new ArrayList<>();
    for (Node node : order) {
      if (node.module == made.size()) {
        made.add(new ArrayList<>());
      }
      writeMessage(node, made.get(node.module));
    }
    List<Integer> madeVersions = new ArrayList<>();
    for (int m = 0; m < made.size(); m++) {
      boolean same = m < moduleBytes.size() && moduleBytes.get(m).equals(made.get(m));
      madeVersions.add(same ? versions.get(m) : published);
    }
    moduleBytes = made;
    versions = madeVersions;
    packets = cut(sections());
    nextPacket = 0;
    return published;
  }

  private static void visit(Node node, List<Node> order) {
    order.add(node);
    for (Node entry : node.entries.values()) {
      visit(entry, order);
    }
  }

  private static void writeMessage(Node node, List<Integer> out) {
    out.addAll(List.of(node.kind, node.key, node.length()));
    out.addAll(node.bytes);
    for (Node entry : node.entries.values()) {
      out.addAll(List.of(entry.name, entry.kind, entry.module, entry.key));
    }
  }

  private List<int[]> sections() {
    List<int[]> all = new ArrayList<>();
    List<Integer> inside = new ArrayList<>(
        List.of(published / 256 % 256, published % 256, moduleBytes.size()));
    for (int m = 0; m < moduleBytes.size(); m++) {
      int version = versions.get(m);
      inside.addAll(List.of(moduleBytes.get(m).size(), version / 256, version % 256));
    }
    all.add(Sections.section(59, toArray(inside)));
    for (int m = 0; m < moduleBytes.size(); m++) {
      List<Integer> bytes = moduleBytes.get(m);
      for (int b = 0; 8 * b < bytes.size(); b++) {
        inside = new ArrayList<>(List.of(m, versions.get(m) / 256, versions.get(m) % 256, b));
        inside.addAll(bytes.subList(8 * b, Math.min(8 * b + 8, bytes.size())));
        all.add(Sections.section(60, toArray(inside)));
      }
    }
    return all;
  }

  private static int[] toArray(List<Integer> list) {
    return list.stream().mapToInt(Integer::intValue).toArray();
  }

  private static List<int[]> cut(List<int[]> sections) {
    List<int[]> packets = new ArrayList<>();
    int section = 0;
    int done = 0;
    while (section < sections.size()) {
      int[] packet = new int[16];
      Arrays.fill(packet, 255);
      packet[0] = 71;
      int rest = done == 0 ? 0 : sections.get(section).length - done;
      boolean start = rest <= 12 && (done == 0 || section + 1 < sections.size());
      packet[1] = start ? 64 : 0;
      int at = 2;
      if (start) {
        packet[at++] = rest;
      }
      while (at < 16 && section < sections.size()) {
        packet[at++] = sections.get(section)[done++];
        if (done == sections.get(section).length) {
          section++;
          done = 0;
          if (!start) {
            break;
          }
        }
      }
      packets.add(packet);
    }
    return packets;
  }

  int modules() {
    return moduleBytes.size();
  }

  int module(int m) {
    if (m < 0 || m >= moduleBytes.size()) {
      return MISSING;
    }
    return 65536 * versions.get(m) + moduleBytes.get(m).size();
  }

  private int[] upcoming() {
    int[] packet = packets.get(nextPacket).clone();
    packet[1] += sent % 16;
    return packet;
  }

  private void step() {
    sent++;
    nextPacket = (nextPacket + 1) % packets.size();
  }

  int peek(int i) {
    return published == 0 || i < 0 || i > 15 ? MISSING : upcoming()[i];
  }

  int send(int n) {
    if (n < 0 || n > 64) {
      return BAD;
    }
    if (published == 0) {
      return MISSING;
    }
    for (int k = 0; k < n; k++) {
      receive(upcoming());
      step();
    }
    return n;
  }

  int lose(int n) {
    if (n < 0 || n > 64) {
      return BAD;
    }
    if (published == 0) {
      return MISSING;
    }
    for (int k = 0; k < n; k++) {
      step();
    }
    return n;
  }

  int spoil(int i, int bits) {
    if (i < 0 || i > 15 || bits < 0 || bits > 255) {
      return BAD;
    }
    if (published == 0) {
      return MISSING;
    }
    int[] packet = upcoming();
    packet[i] ^= bits;
    receive(packet);
    step();
    return 1;
  }

  void retune() {
    listed = new HashMap<>();
    receivedTransaction = MISSING;
    collecting = null;
    lastCounter = -1;
    counts = new int[6];
  }

  private void receive(int[] packet) {
    int control = packet[1];
    if (packet[0] != 71 || (control & 128) != 0 || (control & 32) != 0 || (control & 16) != 0) {
      counts[5]++;
      return;
    }
    if (lastCounter >= 0 && control % 16 != (lastCounter + 1) % 16) {
      drop();
    }
    lastCounter = control % 16;
    if ((control & 64) == 0) {
      for (int i = 2; i < 16; i++) {
        addIfCollecting(packet[i]);
      }
      return;
    }
    int p = packet[2];
    if (p > 13) {
      drop();
      return;
    }
    for (int i = 3; i < 3 + p; i++) {
      addIfCollecting(packet[i]);
    }
    drop();
    for (int i = 3 + p; i < 16; i++) {
      if (collecting == null) {
        if (packet[i] == 255) {
          return;
        }
        collecting = new ArrayList<>();
      }
      addIfCollecting(packet[i]);
    }
  }

  private void drop() {
    if (collecting != null) {
      counts[4]++;
      collecting = null;
    }
  }

  private void addIfCollecting(int value) {
    if (collecting == null) {
      return;
    }
    collecting.add(value);
    if (collecting.size() >= 2 && collecting.size() - 2 == collecting.get(1)) {
      int[] section = toArray(collecting);
      collecting = null;
      look(section);
    }
  }

  private void look(int[] s) {
    if (s.length < 6) {
      counts[2]++;
      return;
    }
    int[] good = Sections.section(s[0], Arrays.copyOfRange(s, 2, s.length - 4));
    if (!Arrays.equals(s, good)) {
      counts[2]++;
      return;
    }
    if (isList(s)) {
      counts[0]++;
      takeList(s);
    } else if (s[0] == 60 && s.length >= 11 && s.length <= 18 && takeBlock(s)) {
      counts[1]++;
    } else {
      counts[3]++;
    }
  }

  private static boolean isList(int[] s) {
    if (s[0] != 59 || s.length < 9 || s.length != 9 + 3 * s[4] || s[4] < 1 || s[4] > 12) {
      return false;
    }
    boolean sizesFit = true;
    for (int m = 0; m < s[4]; m++) {
      sizesFit &= s[5 + 3 * m] >= 1 && s[5 + 3 * m] <= 48;
    }
    return sizesFit;
  }

  private void takeList(int[] s) {
    receivedTransaction = s[2] * 256 + s[3];
    Map<Integer, Listed> now = new HashMap<>();
    for (int m = 0; m < s[4]; m++) {
      int size = s[5 + 3 * m];
      int version = s[6 + 3 * m] * 256 + s[7 + 3 * m];
      Listed had = listed.get(m);
      boolean stays = had != null && had.size == size && had.version == version;
      now.put(m, stays ? had : new Listed(size, version));
    }
    listed = now;
  }

  private boolean takeBlock(int[] s) {
    Listed module = listed.get(s[2]);
    if (module == null || module.version != s[3] * 256 + s[4] || 8 * s[5] >= module.size) {
      return false;
    }
    if (s.length - 10 != Math.min(8, module.size - 8 * s[5])) {
      return false;
    }
    List<Integer> bytes = new ArrayList<>();
    for (int i = 6; i < s.length - 4; i++) {
      bytes.add(s[i]);
    }
    module.blocks.put(s[5], bytes);
    return true;
  }

  int count(int k) {
    return k < 0 || k > 5 ? BAD : counts[k];
  }

  int transaction() {
    return receivedTransaction;
  }

  int held(int m) {
    return listed.containsKey(m) ? listed.get(m).blocks.size() : MISSING;
  }

  int kind(int a, int b, int c) {
    try {
      return walk(a, b, c).get(0);
    } catch (Answer answer) {
      return answer.value;
    }
  }

  int size(int a, int b, int c) {
    try {
      List<Integer> message = walk(a, b, c);
      int length = message.size() - 3;
      return message.get(0) == 1 || message.get(0) == 2 ? length / 4 : length;
    } catch (Answer answer) {
      return answer.value;
    }
  }

  int read(int a, int b, int c, int i) {
    try {
      List<Integer> message = walk(a, b, c);
      return i < 0 || i >= message.size() - 3 ? MISSING : message.get(3 + i);
    } catch (Answer answer) {
      return answer.value;
    }
  }

  private List<Integer> walk(int... names) {
    for (int name : names) {
      if (name < 0 || name > 255) {
        throw new Answer(BAD);
      }
    }
    List<List<Integer>> first = messages(0);
    if (first.isEmpty() || first.get(0).get(0) != 1) {
      throw new Answer(MISSING);
    }
    List<Integer> reached = first.get(0);
    for (int name : names) {
      if (name == 0) {
        break;
      }
      reached = enter(reached, name);
    }
    return reached;
  }

  private List<Integer> enter(List<Integer> directory, int name) {
    if (directory.get(0) != 1 && directory.get(0) != 2) {
      throw new Answer(MISSING);
    }
    for (int at = 3; at + 4 <= directory.size(); at += 4) {
      if (directory.get(at) == name) {
        for (List<Integer> message : messages(directory.get(at + 2))) {
          if (message.get(1).equals(directory.get(at + 3))) {
            return message;
          }
        }
        throw new Answer(MISSING);
      }
    }
    throw new Answer(MISSING);
  }

  private List<List<Integer>> messages(int m) {
    if (receivedTransaction == MISSING) {
      throw new Answer(WAITING);
    }
    if (!listed.containsKey(m)) {
      throw new Answer(MISSING);
    }
    List<Integer> bytes = listed.get(m).bytesIfWhole();
    if (bytes == null) {
      throw new Answer(WAITING);
    }
    List<List<Integer>> all = new ArrayList<>();
    int at = 0;
    while (at + 3 <= bytes.size() && at + 3 + bytes.get(at + 2) <= bytes.size()) {
      int end = at + 3 + bytes.get(at + 2);
      all.add(bytes.subList(at, end));
      at = end;
    }
    return all;
  }
}
