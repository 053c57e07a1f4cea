/** Promise 4: cell answers one stored byte, or -1 outside the length, and changes nothing. */
public final class Promise4Test {
  public static void main(String[] args) {
    Check check = new Check();
    outsideTheLength(check);
    everyKindOfIndex(check);
    beyondAShorterEncoding(check);
    neverNegativeInside(check);
    ffIs255(check);
    cellChangesNothing(check);
    check.end();
  }

  private static void dueOutside(Check check, String when, SqliteVarint x, int n) {
    for (int i : new int[] {
        Integer.MIN_VALUE, Integer.MIN_VALUE + 1, -256, -255, -10, -9, -8, -2, -1,
        n, n + 1, 9, 10, 16, 255, 256, 65536, Integer.MAX_VALUE - 1, Integer.MAX_VALUE}) {
      check.due(when + ": cell(" + i + ")", x.cell(i), -1);
    }
    // An index that is inside once its high or low bits are lost is outside all the same.
    for (int bit = 4; bit < 32; bit++) {
      check.due(when + ": cell(1 << " + bit + ")", x.cell(1 << bit), -1);
    }
  }

  private static void outsideTheLength(Check check) {
    dueOutside(check, "new", new SqliteVarint(), 0);
    for (long v : Values.fullOfEachLength()) {
      SqliteVarint x = new SqliteVarint();
      int n = x.put(v);
      dueOutside(check, "put(" + v + ")", x, n);
      check.dueState("put(" + v + "), after cells outside", x, v, Values.encoding(v));
    }
  }

  private static void everyKindOfIndex(Check check) {
    for (long v : Values.fullOfEachLength()) {
      SqliteVarint x = new SqliteVarint();
      x.put(v);
      int[] bytes = Values.encoding(v);
      for (int i : Values.indexes()) {
        int want = i >= 0 && i < bytes.length ? bytes[i] : -1;
        check.due("put(" + v + "): cell(" + i + ")", x.cell(i), want);
      }
    }
  }

  private static void beyondAShorterEncoding(Check check) {
    SqliteVarint x = new SqliteVarint();
    long[] full = Values.fullOfEachLength();
    for (int n = 9; n >= 1; n--) {
      x.put(-1L);
      x.put(full[n - 1]);
      for (int i = n; i <= 9; i++) {
        check.due("put(-1), put(" + full[n - 1] + "): cell(" + i + ")", x.cell(i), -1);
      }
    }
  }

  private static void neverNegativeInside(Check check) {
    SqliteVarint x = new SqliteVarint();
    x.put(-1L);
    for (int i = 0; i < 9; i++) {
      check.due("put(-1): cell(" + i + ")", x.cell(i), 255);
    }
    for (long v : Values.edges()) {
      int n = x.put(v);
      for (int i = 0; i < n; i++) {
        int answer = x.cell(i);
        check.due("put(" + v + "): cell(" + i + ") in 0..255", answer >= 0 && answer <= 255 ? 1 : 0, 1);
      }
    }
  }

  /** 0xFF as a byte with its marker, at each place it can have, and as the ninth byte. */
  private static void ffIs255(Check check) {
    long[] full = Values.fullOfEachLength();
    for (int n = 2; n <= 9; n++) {
      SqliteVarint x = new SqliteVarint();
      x.put(full[n - 1]);
      for (int i = 0; i < n - 1; i++) {
        check.due("put(" + full[n - 1] + "): cell(" + i + ")", x.cell(i), 255);
      }
    }
    SqliteVarint x = new SqliteVarint();
    x.put((1L << 56) + 0xFF);
    check.due("put((1L << 56) + 0xFF): cell(8)", x.cell(8), 255);
  }

  private static void cellChangesNothing(Check check) {
    SqliteVarint x = new SqliteVarint();
    for (long v : Values.edges()) {
      x.put(v);
      int[] bytes = Values.encoding(v);
      for (int i = -2; i <= 10; i++) {
        int want = i >= 0 && i < bytes.length ? bytes[i] : -1;
        check.due("put(" + v + "): cell(" + i + ")", x.cell(i), want);
        check.due("put(" + v + "): cell(" + i + ") again", x.cell(i), want);
        check.due("put(" + v + "): get() after cell(" + i + ")", x.get(), v);
      }
      check.dueState("put(" + v + "), after cells", x, v, bytes);
    }
  }
}
