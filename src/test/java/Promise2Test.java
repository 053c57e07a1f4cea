/** Promise 2: put stores the encoding of v and answers its length. */
public final class Promise2Test {
  public static void main(String[] args) {
    Check check = new Check();
    examplesOfTheDocument(check);
    tableOfLengths(check);
    everyWidth(check);
    lastByteOfNine(check);
    nothingRemains(check);
    sameValueAgain(check);
    check.end();
  }

  private static void example(Check check, long v, int... bytes) {
    check.duePut("new ", new SqliteVarint(), v, bytes);
  }

  private static void examplesOfTheDocument(Check check) {
    example(check, 0L, 0x00);
    example(check, 127L, 0x7F);
    example(check, 128L, 0x81, 0x00);
    example(check, 16383L, 0xFF, 0x7F);
    example(check, 16384L, 0x81, 0x80, 0x00);
    example(check, 0x00FFFFFFFFFFFFFFL, 0xFF, 0xFF, 0xFF, 0xFF, 0xFF, 0xFF, 0xFF, 0x7F);
    example(check, 1L << 56, 0x80, 0xC0, 0x80, 0x80, 0x80, 0x80, 0x80, 0x80, 0x00);
    example(check, -1L, 0xFF, 0xFF, 0xFF, 0xFF, 0xFF, 0xFF, 0xFF, 0xFF, 0xFF);
    example(check, Long.MIN_VALUE, 0xC0, 0x80, 0x80, 0x80, 0x80, 0x80, 0x80, 0x80, 0x00);
  }

  private static void tableOfLengths(Check check) {
    long[] least = Values.leastOfEachLength();
    long[] full = Values.fullOfEachLength();
    for (int n = 1; n <= 9; n++) {
      check.due("new put(" + least[n - 1] + ")", new SqliteVarint().put(least[n - 1]), n);
      check.due("new put(" + full[n - 1] + ")", new SqliteVarint().put(full[n - 1]), n);
    }
    for (long v : new long[] {Long.MAX_VALUE, Long.MIN_VALUE, Long.MIN_VALUE + 1, -2L, -128L}) {
      check.due("new put(" + v + ")", new SqliteVarint().put(v), 9);
    }
  }

  private static void everyWidth(Check check) {
    SqliteVarint used = new SqliteVarint();
    for (long v : Values.edges()) {
      check.duePut("new ", new SqliteVarint(), v, Values.encoding(v));
      check.duePut("used ", used, v, Values.encoding(v));
    }
    for (long v : Values.mixed(200)) {
      check.duePut("used ", used, v, Values.encoding(v));
    }
  }

  private static void lastByteOfNine(Check check) {
    SqliteVarint x = new SqliteVarint();
    for (int low = 0; low <= 255; low++) {
      check.due("put", x.put((1L << 56) + low), 9);
      check.due("put((1L << 56) + " + low + "): cell(8)", x.cell(8), low);
      check.due("put((1L << 56) + " + low + "): cell(7)", x.cell(7), 0x80);
    }
  }

  private static void nothingRemains(Check check) {
    long[] least = Values.leastOfEachLength();
    long[] full = Values.fullOfEachLength();
    for (long before : full) {
      for (long after : least) {
        SqliteVarint x = new SqliteVarint();
        x.put(before);
        check.duePut("put(" + before + "), then ", x, after, Values.encoding(after));
        check.duePut("put(" + after + "), then ", x, before, Values.encoding(before));
      }
    }
  }

  private static void sameValueAgain(Check check) {
    for (long v : Values.edges()) {
      SqliteVarint x = new SqliteVarint();
      x.put(v);
      for (int round = 0; round < 3; round++) {
        check.duePut("again ", x, v, Values.encoding(v));
      }
    }
  }
}
