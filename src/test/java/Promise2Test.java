/** Promise 2: put stores the encoding of v and answers its length. */
public final class Promise2Test {
  public static void main(String[] args) {
    Check check = new Check();
    examplesOfTheDocument(check);
    tableOfLengths(check);
    everyWidth(check);
    neverRefuses(check);
    edgeOfNineBytes(check);
    negativesTakeNineBytes(check);
    placeOfEachBitOfNineBytes(check);
    lastByteOfNine(check);
    markersOfShorterCases(check);
    highGroupFirst(check);
    nothingRemains(check);
    bytesExactlyBelowTheAnswer(check);
    sameValueAgain(check);
    check.end();
  }

  private static void example(Check check, long v, int... bytes) {
    check.duePut("new ", new SqliteVarint(), v, bytes);
  }

  private static void examplesOfTheDocument(Check check) {
    example(check, 0L, 0x00);
    example(check, 127L, 0x7F);
    example(check, 128L, 0x81, 0x00);
    example(check, 16383L, 0xFF, 0x7F);
    example(check, 16384L, 0x81, 0x80, 0x00);
    example(check, 0x00FFFFFFFFFFFFFFL, 0xFF, 0xFF, 0xFF, 0xFF, 0xFF, 0xFF, 0xFF, 0x7F);
    example(check, 1L << 56, 0x80, 0xC0, 0x80, 0x80, 0x80, 0x80, 0x80, 0x80, 0x00);
    example(check, -1L, 0xFF, 0xFF, 0xFF, 0xFF, 0xFF, 0xFF, 0xFF, 0xFF, 0xFF);
    example(check, Long.MIN_VALUE, 0xC0, 0x80, 0x80, 0x80, 0x80, 0x80, 0x80, 0x80, 0x00);
  }

  private static void tableOfLengths(Check check) {
    long[] least = Values.leastOfEachLength();
    long[] full = Values.fullOfEachLength();
    for (int n = 1; n <= 9; n++) {
      check.due("new put(" + least[n - 1] + ")", new SqliteVarint().put(least[n - 1]), n);
      check.due("new put(" + full[n - 1] + ")", new SqliteVarint().put(full[n - 1]), n);
    }
    for (long v : new long[] {Long.MAX_VALUE, Long.MIN_VALUE, Long.MIN_VALUE + 1, -2L, -128L}) {
      check.due("new put(" + v + ")", new SqliteVarint().put(v), 9);
    }
  }

  private static void everyWidth(Check check) {
    SqliteVarint used = new SqliteVarint();
    for (long v : Values.edges()) {
      check.duePut("new ", new SqliteVarint(), v, Values.encoding(v));
      check.duePut("used ", used, v, Values.encoding(v));
    }
    for (long v : Values.mixed(200)) {
      check.duePut("used ", used, v, Values.encoding(v));
    }
  }

  private static void neverRefuses(Check check) {
    for (long v : Values.edges()) {
      dueOneToNine(check, "new put(" + v + ")", new SqliteVarint().put(v));
      for (long before : Values.fullOfEachLength()) {
        SqliteVarint x = new SqliteVarint();
        x.put(before);
        dueOneToNine(check, "put(" + before + "), put(" + v + ")", x.put(v));
      }
    }
  }

  private static void dueOneToNine(Check check, String call, int n) {
    check.due(call + " = " + n + " is in 1..9", n >= 1 && n <= 9 ? 1 : 0, 1);
  }

  private static void edgeOfNineBytes(Check check) {
    example(check, (1L << 56) - 2, 0xFF, 0xFF, 0xFF, 0xFF, 0xFF, 0xFF, 0xFF, 0x7E);
    example(check, (1L << 56) - 1, 0xFF, 0xFF, 0xFF, 0xFF, 0xFF, 0xFF, 0xFF, 0x7F);
    example(check, 1L << 56, 0x80, 0xC0, 0x80, 0x80, 0x80, 0x80, 0x80, 0x80, 0x00);
    example(check, (1L << 56) + 1, 0x80, 0xC0, 0x80, 0x80, 0x80, 0x80, 0x80, 0x80, 0x01);
    example(check, Long.MAX_VALUE, 0xBF, 0xFF, 0xFF, 0xFF, 0xFF, 0xFF, 0xFF, 0xFF, 0xFF);
    example(check, Long.MIN_VALUE + 1, 0xC0, 0x80, 0x80, 0x80, 0x80, 0x80, 0x80, 0x80, 0x01);
  }

  private static void negativesTakeNineBytes(Check check) {
    SqliteVarint x = new SqliteVarint();
    for (long v : Values.edges()) {
      if (v < 0) {
        check.due("put(" + v + ")", x.put(v), 9);
      }
    }
  }

  /** Bits 63..57 are in byte 0, and so on down to bits 14..8 in byte 7, and 7..0 in byte 8. */
  private static void placeOfEachBitOfNineBytes(Check check) {
    for (int bit = 0; bit < 64; bit++) {
      int[] bytes = {255, 255, 255, 255, 255, 255, 255, 255, 255};
      if (bit <= 7) {
        bytes[8] -= 1 << bit;
      } else {
        bytes[(63 - bit) / 7] -= 1 << ((bit - 8) % 7);
      }
      example(check, -1L - (1L << bit), bytes);
    }
  }

  private static void lastByteOfNine(Check check) {
    SqliteVarint x = new SqliteVarint();
    for (int low = 0; low <= 255; low++) {
      check.due("put", x.put((1L << 56) + low), 9);
      check.due("put((1L << 56) + " + low + "): cell(8)", x.cell(8), low);
      check.due("put((1L << 56) + " + low + "): cell(7)", x.cell(7), 0x80);
    }
  }

  private static void markersOfShorterCases(Check check) {
    for (long v : Values.edges()) {
      SqliteVarint x = new SqliteVarint();
      int n = x.put(v);
      for (int i = 0; i < n && n < 9; i++) {
        String call = "put(" + v + "): 0x80 of cell(" + i + ")";
        check.due(call, x.cell(i) & 0x80, i < n - 1 ? 0x80 : 0);
      }
    }
  }

  private static void highGroupFirst(Check check) {
    example(check, 0x01L, 0x01);
    example(check, 0x82L, 0x81, 0x02);
    example(check, 0x4103L, 0x81, 0x82, 0x03);
    example(check, 0x208184L, 0x81, 0x82, 0x83, 0x04);
    example(check, 0x1040C205L, 0x81, 0x82, 0x83, 0x84, 0x05);
    example(check, 0x820610286L, 0x81, 0x82, 0x83, 0x84, 0x85, 0x06);
    example(check, 0x41030814307L, 0x81, 0x82, 0x83, 0x84, 0x85, 0x86, 0x07);
    example(check, 0x2081840A18388L, 0x81, 0x82, 0x83, 0x84, 0x85, 0x86, 0x87, 0x08);
    example(check, 0x02081840A1838809L, 0x81, 0x82, 0x83, 0x84, 0x85, 0x86, 0x87, 0x88, 0x09);
  }

  private static void nothingRemains(Check check) {
    long[] least = Values.leastOfEachLength();
    long[] full = Values.fullOfEachLength();
    for (long before : full) {
      for (long after : least) {
        SqliteVarint x = new SqliteVarint();
        x.put(before);
        check.duePut("put(" + before + "), then ", x, after, Values.encoding(after));
        check.duePut("put(" + after + "), then ", x, before, Values.encoding(before));
      }
    }
  }

  private static void bytesExactlyBelowTheAnswer(Check check) {
    SqliteVarint x = new SqliteVarint();
    for (long v : Values.edges()) {
      int n = x.put(v);
      for (int i = -3; i <= 12; i++) {
        String call = "put(" + v + ") = " + n + ": cell(" + i + ") is a byte";
        check.due(call, x.cell(i) != -1 ? 1 : 0, i >= 0 && i < n ? 1 : 0);
      }
    }
  }

  private static void sameValueAgain(Check check) {
    for (long v : Values.edges()) {
      SqliteVarint x = new SqliteVarint();
      x.put(v);
      for (int round = 0; round < 3; round++) {
        check.duePut("again ", x, v, Values.encoding(v));
      }
    }
  }
}
