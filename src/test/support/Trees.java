/** Trees that many tests publish. */
final class Trees {
  private Trees() {
  }

  /** Files of the gateway, named from 1 on, with so many bytes, each of which is the file's key. */
  static Twin files(Due due, int... lengths) {
    Twin x = new Twin(due);
    for (int f = 0; f < lengths.length; f++) {
      file(x, f + 1, lengths[f]);
    }
    x.publish();
    return x;
  }

  static void file(Twin x, int name, int length) {
    int key = x.make(0, name, false);
    for (int i = 0; i < length; i++) {
      x.append(key, key);
    }
  }
}
