/** One SQLite varint: a 64-bit value written in one to nine bytes, high group first. */
public final class SqliteVarint {
  private static final int MAX_LENGTH = 9;
  private static final int GROUP_BITS = 7;
  private static final int GROUP_MASK = 0x7F;
  private static final int MORE_FOLLOWS = 0x80;
  private static final int LAST_BYTE_BITS = 8;
  private static final int LAST_BYTE_MASK = 0xFF;
  // Eight groups of seven bits: a value with more bits needs the ninth byte.
  private static final int GROUPED_BITS = 56;

  // Kept as int, so that a byte such as 0xFF is never read back as -1.
  private final int[] bytes = new int[MAX_LENGTH];
  private int length = 0;

  public SqliteVarint() {
  }

  public int put(long v) {
    if ((v >>> GROUPED_BITS) != 0) {
      storeNineBytes(v);
    } else {
      storeGroups(v);
    }
    return length;
  }

  public long get() {
    if (length == MAX_LENGTH) {
      // The ninth byte has no marker bit: all eight of its bits belong to the value.
      return (joinGroups(MAX_LENGTH - 1) << LAST_BYTE_BITS) | bytes[MAX_LENGTH - 1];
    }
    return joinGroups(length);
  }

  public int cell(int i) {
    // Cells beyond the length may still hold an earlier, longer encoding.
    if (i < 0 || i >= length) {
      return -1;
    }
    return bytes[i];
  }

  private void storeNineBytes(long v) {
    long grouped = v >>> LAST_BYTE_BITS;
    for (int i = MAX_LENGTH - 2; i >= 0; i--) {
      bytes[i] = MORE_FOLLOWS | lowGroup(grouped);
      grouped >>>= GROUP_BITS;
    }
    bytes[MAX_LENGTH - 1] = (int) (v & LAST_BYTE_MASK);
    length = MAX_LENGTH;
  }

  private void storeGroups(long v) {
    int n = groupCount(v);
    long rest = v >>> GROUP_BITS;
    for (int i = n - 2; i >= 0; i--) {
      bytes[i] = MORE_FOLLOWS | lowGroup(rest);
      rest >>>= GROUP_BITS;
    }
    bytes[n - 1] = lowGroup(v);
    length = n;
  }

  private static int groupCount(long v) {
    int n = 1;
    // A value that comes here fits in eight groups, so an eighth needs no further look.
    while (n < MAX_LENGTH - 1 && (v >>> (GROUP_BITS * n)) != 0) {
      n++;
    }
    return n;
  }

  private static int lowGroup(long v) {
    return (int) (v & GROUP_MASK);
  }

  private long joinGroups(int count) {
    long v = 0;
    for (int i = 0; i < count; i++) {
      v = (v << GROUP_BITS) | (bytes[i] & GROUP_MASK);
    }
    return v;
  }
}
