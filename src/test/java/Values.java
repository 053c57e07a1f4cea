import java.util.ArrayList;
import java.util.List;

/** Values to store, and their encodings worked out on strings of binary digits. */
final class Values {
  private Values() {
  }

  /**
   * The encoding is cut out of the 64 written digits, with no shift or mask, so that a slip in
   * the class's arithmetic is not made here a second time.
   */
  static int[] encoding(long v) {
    String digits = Long.toBinaryString(v);
    digits = "0".repeat(64 - digits.length()) + digits;
    int significant = digits.indexOf('1') < 0 ? 0 : 64 - digits.indexOf('1');
    if (significant > 56) {
      int[] bytes = new int[9];
      for (int i = 0; i < 8; i++) {
        bytes[i] = Integer.parseInt("1" + digits.substring(7 * i, 7 * i + 7), 2);
      }
      bytes[8] = Integer.parseInt(digits.substring(56), 2);
      return bytes;
    }
    int n = significant == 0 ? 1 : (significant + 6) / 7;
    int[] bytes = new int[n];
    for (int i = 0; i < n; i++) {
      int start = 64 - 7 * (n - i);
      String marker = i < n - 1 ? "1" : "0";
      bytes[i] = Integer.parseInt(marker + digits.substring(start, start + 7), 2);
    }
    return bytes;
  }

  /** Every power of two and its neighbours, their complements, and some ordinary values. */
  static List<Long> edges() {
    List<Long> values = new ArrayList<>();
    for (int bit = 0; bit < 64; bit++) {
      long power = 1L << bit;
      for (long v = power - 1; v != power + 2; v++) {
        values.add(v);
        values.add(~v);
      }
    }
    for (long v = 0; v < 300; v++) {
      values.add(v);
    }
    for (long v : new long[] {
        0x0123456789ABCDEFL, 0xFEDCBA9876543210L, 0x5555555555555555L, 0xAAAAAAAAAAAAAAAAL,
        Integer.MAX_VALUE, Integer.MIN_VALUE, Long.MAX_VALUE, Long.MIN_VALUE}) {
      values.add(v);
    }
    return values;
  }

  /** A fixed run of well-mixed values of every width from 1 to 64 bits; the same on every run. */
  static List<Long> mixed(int rounds) {
    List<Long> values = new ArrayList<>();
    long seed = 1;
    for (int round = 0; round < rounds; round++) {
      for (int width = 1; width <= 64; width++) {
        seed = seed * 6364136223846793005L + 1442695040888963407L;
        long spread = seed ^ (seed >>> 29);
        values.add((spread | Long.MIN_VALUE) >>> (64 - width));
      }
    }
    return values;
  }

  /** One value of each length 1 to 9, at index length - 1, with every bit of its groups set. */
  static long[] fullOfEachLength() {
    return new long[] {
        127L, 16383L, 2097151L, 268435455L, 34359738367L, 4398046511103L, 562949953421311L,
        72057594037927935L, -1L};
  }

  /** The least value of each length 1 to 9, at index length - 1. */
  static long[] leastOfEachLength() {
    return new long[] {
        0L, 128L, 16384L, 2097152L, 268435456L, 34359738368L, 4398046511104L, 562949953421312L,
        72057594037927936L};
  }

  /**
   * Indexes of every kind: all near the nine cells, both ends of int, every single bit (an index
   * that is inside once its high bits are lost), and steps through the whole range of int.
   */
  static List<Integer> indexes() {
    List<Integer> found = new ArrayList<>();
    for (int i = -300; i <= 300; i++) {
      found.add(i);
    }
    for (int bit = 0; bit < 32; bit++) {
      found.add(1 << bit);
      found.add(-(1 << bit));
    }
    for (long i = Integer.MIN_VALUE; i <= Integer.MAX_VALUE; i += 9999991) {
      found.add((int) i);
    }
    for (int i = 0; i <= 9; i++) {
      found.add(Integer.MIN_VALUE + i);
      found.add(Integer.MAX_VALUE - i);
    }
    return found;
  }
}
