import java.util.Arrays;

/**
 * A tree of files that is broadcast round and round as packets of sixteen bytes, and a receiver
 * that tunes in at any time and shows files of one broadcast alone.
 */
public final class CarouselMount {
  public static final int BAD = -1;
  public static final int MISSING = -2;
  public static final int EXISTS = -3;
  public static final int FULL = -4;
  public static final int NOT_EMPTY = -5;
  public static final int WAITING = -6;

  private static final int NONE = -1;
  private static final int BYTE_MAX = 255;

  private static final int OBJECTS = 12;
  private static final int FILE_BYTES = 12;
  private static final int GATEWAY = 1;
  private static final int DIRECTORY = 2;
  private static final int FILE = 3;

  private static final int MESSAGE_HEAD = 3;
  private static final int ENTRY_BYTES = 4;
  private static final int MODULES = 12;
  private static final int MODULE_BYTES = 48;
  private static final int SHARED_MODULE_BYTES = 24;
  private static final int BLOCK_BYTES = 8;
  private static final int BLOCKS = 6;

  private static final int LIST_TAG = 59;
  private static final int BLOCK_TAG = 60;
  private static final int SECTION_HEAD = 2;
  private static final int CHECK_BYTES = 4;
  private static final int LIST_HEAD = 5;
  private static final int LIST_ROW = 3;
  private static final int BLOCK_HEAD = 6;
  private static final int POLYNOMIAL = 79764919;

  private static final int PACKET_BYTES = 16;
  private static final int PACKET_HEAD = 2;
  private static final int SYNC = 71;
  private static final int START = 64;
  private static final int FORBIDDEN = 128 | 32 | 16;
  private static final int COUNTER = 15;
  private static final int FILL = 255;
  private static final int MOST_PACKETS = 64;

  private final Tree tree = new Tree();
  private final Edition edition = new Edition();
  private final Sender sender = new Sender();
  private final Receiver receiver = new Receiver();

  public CarouselMount() {
  }

  public int make(int parent, int name, boolean directory) {
    if (parent < 0 || parent >= OBJECTS || name < 1 || name > BYTE_MAX) {
      return BAD;
    }
    if (!tree.isDirectory(parent)) {
      return MISSING;
    }
    if (tree.hasEntry(parent, name)) {
      return EXISTS;
    }
    int key = tree.leastFreeKey();
    if (key == NONE) {
      return FULL;
    }
    tree.put(key, parent, name, directory ? DIRECTORY : FILE);
    return key;
  }

  public int remove(int key) {
    if (!isEntryKey(key)) {
      return BAD;
    }
    if (!tree.isThere(key)) {
      return MISSING;
    }
    if (tree.entryCount(key) > 0) {
      return NOT_EMPTY;
    }
    tree.take(key);
    return 0;
  }

  public int append(int key, int value) {
    if (!isEntryKey(key) || !isByte(value)) {
      return BAD;
    }
    if (!tree.isFile(key)) {
      return MISSING;
    }
    if (tree.fileLength(key) >= FILE_BYTES) {
      return FULL;
    }
    return tree.addByte(key, value);
  }

  public int empty(int key) {
    if (!isEntryKey(key)) {
      return BAD;
    }
    if (!tree.isFile(key)) {
      return MISSING;
    }
    return tree.clearFile(key);
  }

  public int publish() {
    edition.renew(tree);
    sender.beginCycleOf(edition);
    return edition.number;
  }

  public int modules() {
    return edition.moduleCount;
  }

  public int module(int m) {
    if (m < 0 || m >= edition.moduleCount) {
      return MISSING;
    }
    return 65536 * edition.versions[m] + edition.sizes[m];
  }

  public int peek(int i) {
    if (!sender.isOnAir() || i < 0 || i >= PACKET_BYTES) {
      return MISSING;
    }
    return sender.packet[i];
  }

  public int send(int n) {
    if (n < 0 || n > MOST_PACKETS) {
      return BAD;
    }
    if (!sender.isOnAir()) {
      return MISSING;
    }
    for (int sent = 0; sent < n; sent++) {
      receiver.takePacket(sender.packet);
      sender.advance();
    }
    return n;
  }

  public int lose(int n) {
    if (n < 0 || n > MOST_PACKETS) {
      return BAD;
    }
    if (!sender.isOnAir()) {
      return MISSING;
    }
    for (int sent = 0; sent < n; sent++) {
      sender.advance();
    }
    return n;
  }

  public int spoil(int i, int bits) {
    if (i < 0 || i >= PACKET_BYTES || !isByte(bits)) {
      return BAD;
    }
    if (!sender.isOnAir()) {
      return MISSING;
    }
    // The packet may be changed in place: advance() writes every byte of it anew.
    sender.packet[i] ^= bits;
    receiver.takePacket(sender.packet);
    sender.advance();
    return 1;
  }

  public void retune() {
    receiver.reset();
  }

  public int count(int k) {
    if (k < 0 || k >= receiver.counts.length) {
      return BAD;
    }
    return receiver.counts[k];
  }

  public int transaction() {
    Mount mount = receiver.mount;
    return mount.hasList ? mount.listTransaction : MISSING;
  }

  public int held(int m) {
    Mount mount = receiver.mount;
    return mount.isListed(m) ? mount.blocksHeld(m) : MISSING;
  }

  public int kind(int a, int b, int c) {
    int message = follow(a, b, c);
    return message < 0 ? message : receiver.mount.kindAt(message);
  }

  public int size(int a, int b, int c) {
    int message = follow(a, b, c);
    if (message < 0) {
      return message;
    }
    Mount mount = receiver.mount;
    int length = mount.lengthAt(message);
    return mount.isDirectoryAt(message) ? length / ENTRY_BYTES : length;
  }

  public int read(int a, int b, int c, int i) {
    int message = follow(a, b, c);
    if (message < 0) {
      return message;
    }
    if (i < 0 || i >= receiver.mount.lengthAt(message)) {
      return MISSING;
    }
    return receiver.mount.contentAt(message, i);
  }

  /** Where the message at the end of the path begins, or the negative answer due. */
  private int follow(int a, int b, int c) {
    if (!isByte(a) || !isByte(b) || !isByte(c)) {
      return BAD;
    }
    Mount mount = receiver.mount;
    int message = mount.gateway();
    if (a == 0 || message < 0) {
      return message;
    }
    message = mount.enter(message, a);
    if (b == 0 || message < 0) {
      return message;
    }
    message = mount.enter(message, b);
    if (c == 0 || message < 0) {
      return message;
    }
    return mount.enter(message, c);
  }

  private static boolean isEntryKey(int key) {
    return key >= 1 && key < OBJECTS;
  }

  private static boolean isByte(int value) {
    return value >= 0 && value <= BYTE_MAX;
  }

  private static int pairAt(int[] row, int at) {
    return row[at] * 256 + row[at + 1];
  }

  private static int checkOf(int[] row, int from, int end) {
    int c = -1;
    for (int i = from; i < end; i++) {
      c ^= row[i] << 24;
      for (int bit = 0; bit < 8; bit++) {
        c = c < 0 ? c << 1 ^ POLYNOMIAL : c << 1;
      }
    }
    return c;
  }

  private static int blocksIn(int moduleSize) {
    return (moduleSize + BLOCK_BYTES - 1) / BLOCK_BYTES;
  }

  private static int blockLength(int moduleSize, int block) {
    int left = moduleSize - block * BLOCK_BYTES;
    return left < BLOCK_BYTES ? left : BLOCK_BYTES;
  }

  /** The sender's objects; callers give keys 0 .. 11 alone. */
  private static final class Tree {
    private final int[] kinds = new int[OBJECTS];
    // NONE for the gateway and for keys that no object has, so that these lie nowhere.
    private final int[] parents = new int[OBJECTS];
    private final int[] names = new int[OBJECTS];
    private final int[] lengths = new int[OBJECTS];
    private final int[] bytes = new int[OBJECTS * FILE_BYTES];

    Tree() {
      kinds[0] = GATEWAY;
      Arrays.fill(parents, NONE);
    }

    boolean isThere(int key) {
      return kinds[key] != 0;
    }

    boolean isDirectory(int key) {
      return kinds[key] == GATEWAY || kinds[key] == DIRECTORY;
    }

    boolean isFile(int key) {
      return kinds[key] == FILE;
    }

    int kindOf(int key) {
      return kinds[key];
    }

    int nameOf(int key) {
      return names[key];
    }

    int fileLength(int key) {
      return lengths[key];
    }

    int fileByte(int key, int i) {
      return bytes[key * FILE_BYTES + i];
    }

    boolean hasEntry(int directory, int name) {
      for (int key = 1; key < OBJECTS; key++) {
        if (parents[key] == directory && names[key] == name) {
          return true;
        }
      }
      return false;
    }

    int entryCount(int directory) {
      int entries = 0;
      for (int key = 1; key < OBJECTS; key++) {
        if (parents[key] == directory) {
          entries++;
        }
      }
      return entries;
    }

    int leastFreeKey() {
      for (int key = 1; key < OBJECTS; key++) {
        if (!isThere(key)) {
          return key;
        }
      }
      return NONE;
    }

    void put(int key, int parent, int name, int kindOfNew) {
      kinds[key] = kindOfNew;
      parents[key] = parent;
      names[key] = name;
      lengths[key] = 0;
    }

    void take(int key) {
      kinds[key] = 0;
      parents[key] = NONE;
    }

    int addByte(int key, int value) {
      bytes[key * FILE_BYTES + lengths[key]] = value;
      lengths[key]++;
      return lengths[key];
    }

    int clearFile(int key) {
      int had = lengths[key];
      lengths[key] = 0;
      return had;
    }

    int messageLength(int key) {
      return isFile(key) ? lengths[key] : ENTRY_BYTES * entryCount(key);
    }

    /** The entry with the least name above the given one, or NONE. */
    int entryAfter(int directory, int name) {
      int found = NONE;
      for (int key = 1; key < OBJECTS; key++) {
        boolean behind = parents[key] == directory && names[key] > name;
        if (behind && (found == NONE || names[key] < names[found])) {
          found = key;
        }
      }
      return found;
    }

    /** The object that comes behind this one in the order of publishing, or NONE. */
    int followerOf(int key) {
      int found = entryAfter(key, 0);
      int at = key;
      for (int level = 0; level < OBJECTS && found == NONE && at > 0; level++) {
        found = entryAfter(parents[at], names[at]);
        at = parents[at];
      }
      return found;
    }
  }

  /** The modules of the latest publishing. */
  private static final class Edition {
    int number = 0;
    int moduleCount = 0;
    final int[] sizes = new int[MODULES];
    final int[] versions = new int[MODULES];
    private final int[] bytes = new int[MODULES * MODULE_BYTES];
    private final int[] order = new int[OBJECTS];
    private int orderCount = 0;
    private final int[] moduleOf = new int[OBJECTS];
    private final int[] draft = new int[MODULE_BYTES];
    private int draftSize = 0;

    int byteAt(int m, int i) {
      return bytes[m * MODULE_BYTES + i];
    }

    void renew(Tree tree) {
      number++;
      arrange(tree);
      int count = assignModules(tree);
      for (int m = 0; m < count; m++) {
        draftModule(tree, m);
        keepDraft(m);
      }
      moduleCount = count;
    }

    private void arrange(Tree tree) {
      orderCount = 0;
      int key = 0;
      for (int place = 0; place < OBJECTS && key != NONE; place++) {
        order[place] = key;
        orderCount++;
        key = tree.followerOf(key);
      }
    }

    /** Entries name modules, so all places are fixed before a byte is written. */
    private int assignModules(Tree tree) {
      int latest = 0;
      int filled = 0;
      for (int place = 0; place < orderCount; place++) {
        int needed = MESSAGE_HEAD + tree.messageLength(order[place]);
        if (place > 0 && filled + needed > SHARED_MODULE_BYTES) {
          latest++;
          filled = 0;
        }
        moduleOf[order[place]] = latest;
        filled += needed;
      }
      return latest + 1;
    }

    private void draftModule(Tree tree, int m) {
      draftSize = 0;
      for (int place = 0; place < orderCount; place++) {
        if (moduleOf[order[place]] == m) {
          draftMessage(tree, order[place]);
        }
      }
    }

    private void draftMessage(Tree tree, int key) {
      write(tree.kindOf(key));
      write(key);
      write(tree.messageLength(key));
      if (tree.isFile(key)) {
        for (int i = 0; i < tree.fileLength(key); i++) {
          write(tree.fileByte(key, i));
        }
      } else {
        draftEntries(tree, key);
      }
    }

    private void draftEntries(Tree tree, int directory) {
      int entry = tree.entryAfter(directory, 0);
      for (int turn = 0; turn < OBJECTS && entry != NONE; turn++) {
        write(tree.nameOf(entry));
        write(tree.kindOf(entry));
        write(moduleOf[entry]);
        write(entry);
        entry = tree.entryAfter(directory, tree.nameOf(entry));
      }
    }

    private void write(int value) {
      if (draftSize < draft.length) {
        draft[draftSize] = value;
        draftSize++;
      }
    }

    /** moduleCount, sizes and bytes from m on are still those of the publishing before. */
    private void keepDraft(int m) {
      if (m >= moduleCount || !draftEquals(m)) {
        versions[m] = number;
      }
      sizes[m] = draftSize;
      System.arraycopy(draft, 0, bytes, m * MODULE_BYTES, draftSize);
    }

    private boolean draftEquals(int m) {
      if (sizes[m] != draftSize) {
        return false;
      }
      for (int i = 0; i < draftSize; i++) {
        if (byteAt(m, i) != draft[i]) {
          return false;
        }
      }
      return true;
    }
  }

  /** The bytes of all sections of one cycle, one right behind the other. */
  private static final class Cycle {
    private static final int MOST_SECTIONS = 1 + MODULES * BLOCKS;
    private static final int MOST_BYTES = LIST_HEAD + MODULES * LIST_ROW + CHECK_BYTES
        + MODULES * BLOCKS * (BLOCK_HEAD + BLOCK_BYTES + CHECK_BYTES);

    final int[] bytes = new int[MOST_BYTES];
    int length = 0;
    private final int[] starts = new int[MOST_SECTIONS];
    private int sectionCount = 0;

    void renew(Edition edition) {
      length = 0;
      sectionCount = 0;
      addList(edition);
      for (int m = 0; m < edition.moduleCount; m++) {
        int blocks = blocksIn(edition.sizes[m]);
        for (int block = 0; block < blocks; block++) {
          addBlock(edition, m, block);
        }
      }
    }

    /** Where the first section begins that begins at the position or behind it; else the end. */
    int startFrom(int position) {
      for (int section = 0; section < sectionCount; section++) {
        if (starts[section] >= position) {
          return starts[section];
        }
      }
      return length;
    }

    private void addList(Edition edition) {
      begin(LIST_TAG, LIST_HEAD + LIST_ROW * edition.moduleCount);
      writePair(edition.number);
      write(edition.moduleCount);
      for (int m = 0; m < edition.moduleCount; m++) {
        write(edition.sizes[m]);
        writePair(edition.versions[m]);
      }
      writeCheck();
    }

    private void addBlock(Edition edition, int m, int block) {
      int count = blockLength(edition.sizes[m], block);
      begin(BLOCK_TAG, BLOCK_HEAD + count);
      write(m);
      writePair(edition.versions[m]);
      write(block);
      for (int i = 0; i < count; i++) {
        write(edition.byteAt(m, block * BLOCK_BYTES + i));
      }
      writeCheck();
    }

    private void begin(int tag, int bytesBeforeCheck) {
      if (sectionCount < starts.length) {
        starts[sectionCount] = length;
        sectionCount++;
      }
      write(tag);
      write(bytesBeforeCheck - SECTION_HEAD + CHECK_BYTES);
    }

    private void writeCheck() {
      int check = checkOf(bytes, starts[sectionCount - 1], length);
      writePair(check >>> 16);
      writePair(check);
    }

    private void writePair(int value) {
      write(value >> 8);
      write(value);
    }

    private void write(int value) {
      if (length < bytes.length) {
        bytes[length] = value & BYTE_MAX;
        length++;
      }
    }
  }

  /** Cuts the cycle into packets; the next packet lies ready once something was published. */
  private static final class Sender {
    private static final int MOST_REST_IN_START = 12;

    final int[] packet = new int[PACKET_BYTES];
    private final Cycle cycle = new Cycle();
    private int counter = 0;
    private int position = 0;
    private int positionBehind = 0;

    boolean isOnAir() {
      return cycle.length > 0;
    }

    void beginCycleOf(Edition edition) {
      cycle.renew(edition);
      position = 0;
      prepare();
    }

    void advance() {
      counter = counter + 1 & COUNTER;
      position = positionBehind < cycle.length ? positionBehind : 0;
      prepare();
    }

    private void prepare() {
      int nextStart = cycle.startFrom(position);
      int rest = nextStart - position;
      boolean start = rest <= MOST_REST_IN_START && nextStart < cycle.length;
      packet[0] = SYNC;
      packet[1] = start ? START | counter : counter;
      if (start) {
        packet[PACKET_HEAD] = rest;
        load(PACKET_HEAD + 1, cycle.length);
      } else {
        load(PACKET_HEAD, nextStart);
      }
    }

    private void load(int from, int end) {
      int next = position;
      for (int i = from; i < PACKET_BYTES; i++) {
        if (next < end) {
          packet[i] = cycle.bytes[next];
          next++;
        } else {
          packet[i] = FILL;
        }
      }
      positionBehind = next;
    }
  }

  /** Puts sections together from packets and hands the good ones to the mount. */
  private static final class Receiver {
    private static final int LISTS = 0;
    private static final int BLOCKS_TAKEN = 1;
    private static final int BAD_SECTIONS = 2;
    private static final int STRANGE = 3;
    private static final int THROWN_AWAY = 4;
    private static final int IGNORED = 5;
    private static final int KINDS_COUNTED = 6;
    private static final int LEAST_SECTION = SECTION_HEAD + CHECK_BYTES;
    private static final int MOST_REST = 13;

    final Mount mount = new Mount();
    final int[] counts = new int[KINDS_COUNTED];
    private final int[] section = new int[SECTION_HEAD + BYTE_MAX];
    private int collected = 0;
    private int lastCounter = NONE;

    void reset() {
      mount.reset();
      Arrays.fill(counts, 0);
      collected = 0;
      lastCounter = NONE;
    }

    void takePacket(int[] packet) {
      int control = packet[1];
      if (packet[0] != SYNC || (control & FORBIDDEN) != 0) {
        counts[IGNORED]++;
        return;
      }
      int counter = control & COUNTER;
      if (lastCounter != NONE && counter != (lastCounter + 1 & COUNTER)) {
        throwAway();
      }
      lastCounter = counter;
      int rest = packet[PACKET_HEAD];
      if ((control & START) == 0) {
        continueSection(packet, PACKET_HEAD, PACKET_BYTES);
      } else if (rest > MOST_REST) {
        throwAway();
      } else {
        int begin = PACKET_HEAD + 1 + rest;
        continueSection(packet, PACKET_HEAD + 1, begin);
        throwAway();
        beginSections(packet, begin);
      }
    }

    private void continueSection(int[] packet, int from, int end) {
      for (int i = from; i < end && collected > 0; i++) {
        collect(packet[i]);
      }
    }

    private void beginSections(int[] packet, int from) {
      for (int i = from; i < PACKET_BYTES; i++) {
        if (collected == 0 && packet[i] == FILL) {
          return;
        }
        collect(packet[i]);
      }
    }

    private void throwAway() {
      if (collected > 0) {
        counts[THROWN_AWAY]++;
        collected = 0;
      }
    }

    private void collect(int value) {
      // A section is complete, and leaves the row, with at most 2 + 255 bytes: the row's length.
      section[collected] = value;
      collected++;
      if (collected >= SECTION_HEAD && collected == SECTION_HEAD + section[1]) {
        int length = collected;
        collected = 0;
        counts[judge(length)]++;
      }
    }

    /** Takes the complete section in and answers what it counts as. */
    private int judge(int length) {
      if (length < LEAST_SECTION || !hasCheckDue(length)) {
        return BAD_SECTIONS;
      }
      if (isList(length)) {
        mount.takeList(section);
        return LISTS;
      }
      if (isBlock(length) && mount.takeBlock(section, length - BLOCK_HEAD - CHECK_BYTES)) {
        return BLOCKS_TAKEN;
      }
      return STRANGE;
    }

    private boolean hasCheckDue(int length) {
      int at = length - CHECK_BYTES;
      int check = pairAt(section, at) << 16 | pairAt(section, at + 2);
      return check == checkOf(section, 0, at);
    }

    private boolean isList(int length) {
      if (section[0] != LIST_TAG || length < LIST_HEAD + CHECK_BYTES) {
        return false;
      }
      int modulesListed = section[LIST_HEAD - 1];
      if (modulesListed < 1 || modulesListed > MODULES) {
        return false;
      }
      if (length != LIST_HEAD + LIST_ROW * modulesListed + CHECK_BYTES) {
        return false;
      }
      for (int m = 0; m < modulesListed; m++) {
        int moduleSize = section[LIST_HEAD + LIST_ROW * m];
        if (moduleSize < 1 || moduleSize > MODULE_BYTES) {
          return false;
        }
      }
      return true;
    }

    private boolean isBlock(int length) {
      int count = length - BLOCK_HEAD - CHECK_BYTES;
      return section[0] == BLOCK_TAG && count >= 1 && count <= BLOCK_BYTES;
    }
  }

  /** What the receiver has of the modules; a message is named by where it begins in the row. */
  private static final class Mount {
    boolean hasList = false;
    int listTransaction = 0;
    // A size of 0 says that the module is not listed.
    private final int[] sizes = new int[MODULES];
    private final int[] versions = new int[MODULES];
    // Bit b of a module's number says that its block b is held.
    private final int[] heldBits = new int[MODULES];
    private final int[] bytes = new int[MODULES * MODULE_BYTES];

    void reset() {
      hasList = false;
      listTransaction = 0;
      for (int m = 0; m < MODULES; m++) {
        relist(m, 0, 0);
      }
    }

    private void relist(int m, int newSize, int newVersion) {
      sizes[m] = newSize;
      versions[m] = newVersion;
      heldBits[m] = 0;
    }

    void takeList(int[] section) {
      hasList = true;
      listTransaction = pairAt(section, SECTION_HEAD);
      int modulesListed = section[LIST_HEAD - 1];
      for (int m = 0; m < MODULES; m++) {
        int at = LIST_HEAD + LIST_ROW * m;
        int newSize = m < modulesListed ? section[at] : 0;
        int newVersion = m < modulesListed ? pairAt(section, at + 1) : 0;
        if (sizes[m] != newSize || versions[m] != newVersion) {
          relist(m, newSize, newVersion);
        }
      }
    }

    /** Holds the block and answers true, or answers false when no listed module has it so. */
    boolean takeBlock(int[] section, int count) {
      int m = section[2];
      int block = section[5];
      if (!isListed(m) || versions[m] != pairAt(section, 3)) {
        return false;
      }
      if (block >= blocksIn(sizes[m]) || count != blockLength(sizes[m], block)) {
        return false;
      }
      int target = m * MODULE_BYTES + block * BLOCK_BYTES;
      System.arraycopy(section, BLOCK_HEAD, bytes, target, count);
      heldBits[m] |= 1 << block;
      return true;
    }

    boolean isListed(int m) {
      return m >= 0 && m < MODULES && sizes[m] > 0;
    }

    int blocksHeld(int m) {
      return Integer.bitCount(heldBits[m]);
    }

    /** 0 when the module can be read, otherwise the answer that is due instead. */
    private int obstacle(int m) {
      if (!hasList) {
        return WAITING;
      }
      if (!isListed(m)) {
        return MISSING;
      }
      return blocksHeld(m) == blocksIn(sizes[m]) ? 0 : WAITING;
    }

    int gateway() {
      int obstacle = obstacle(0);
      if (obstacle < 0) {
        return obstacle;
      }
      return fits(0, sizes[0]) && kindAt(0) == GATEWAY ? 0 : MISSING;
    }

    /** The message that the name leads to from the given one, or MISSING or WAITING. */
    int enter(int message, int name) {
      if (!isDirectoryAt(message)) {
        return MISSING;
      }
      int entries = lengthAt(message) / ENTRY_BYTES;
      for (int e = 0; e < entries; e++) {
        int at = message + MESSAGE_HEAD + ENTRY_BYTES * e;
        if (bytes[at] == name) {
          return messageWithKey(bytes[at + 2], bytes[at + 3]);
        }
      }
      return MISSING;
    }

    private int messageWithKey(int m, int key) {
      int obstacle = obstacle(m);
      if (obstacle < 0) {
        return obstacle;
      }
      int at = m * MODULE_BYTES;
      int end = at + sizes[m];
      for (int turn = 0; turn < MODULE_BYTES && fits(at, end); turn++) {
        if (bytes[at + 1] == key) {
          return at;
        }
        at += MESSAGE_HEAD + lengthAt(at);
      }
      return MISSING;
    }

    private boolean fits(int at, int end) {
      return at + MESSAGE_HEAD <= end && at + MESSAGE_HEAD + lengthAt(at) <= end;
    }

    boolean isDirectoryAt(int message) {
      return kindAt(message) == GATEWAY || kindAt(message) == DIRECTORY;
    }

    int kindAt(int message) {
      return bytes[message];
    }

    int lengthAt(int message) {
      return bytes[message + 2];
    }

    int contentAt(int message, int i) {
      return bytes[message + MESSAGE_HEAD + i];
    }
  }
}
