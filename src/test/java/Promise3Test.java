/** Promise 3: get answers the stored value and changes nothing. */
public final class Promise3Test {
  public static void main(String[] args) {
    Check check = new Check();
    zeroBeforeAnyPut(check);
    sameBitsComeBack(check);
    negativeComesBackNegative(check);
    getChangesNothing(check);
    sameAnswerUntilTheNextPut(check);
    check.end();
  }

  private static void zeroBeforeAnyPut(Check check) {
    SqliteVarint x = new SqliteVarint();
    check.due("new: get()", x.get(), 0);
    check.due("new: get() again", x.get(), 0);
    check.due("new: cell(0) after get()", x.cell(0), -1);
  }

  private static void sameBitsComeBack(Check check) {
    SqliteVarint used = new SqliteVarint();
    for (long v : Values.edges()) {
      SqliteVarint fresh = new SqliteVarint();
      fresh.put(v);
      check.due("new put(" + v + "): get()", fresh.get(), v);
      used.put(v);
      check.due("used put(" + v + "): get()", used.get(), v);
    }
    for (long v : Values.mixed(1000)) {
      used.put(v);
      check.due("used put(" + v + "): get()", used.get(), v);
      used.put(-v);
      check.due("used put(" + -v + "): get()", used.get(), -v);
    }
  }

  private static void negativeComesBackNegative(Check check) {
    for (long v : new long[] {
        -1L, -2L, -127L, -128L, -129L, -255L, -256L, -257L, Integer.MIN_VALUE, -(1L << 32),
        -(1L << 56), -(1L << 56) - 1, -(1L << 57), Long.MIN_VALUE + 1, Long.MIN_VALUE}) {
      SqliteVarint x = new SqliteVarint();
      x.put(v);
      check.due("new put(" + v + "): get()", x.get(), v);
    }
  }

  private static void getChangesNothing(Check check) {
    SqliteVarint x = new SqliteVarint();
    for (long v : Values.edges()) {
      x.put(v);
      for (int round = 0; round < 5; round++) {
        check.due("put(" + v + "): get(), round " + round, x.get(), v);
      }
      check.dueState("put(" + v + "), after get()", x, v, Values.encoding(v));
    }
  }

  private static void sameAnswerUntilTheNextPut(Check check) {
    SqliteVarint x = new SqliteVarint();
    long stored = 0;
    for (long next : new long[] {-1L, 0L, 128L, Long.MIN_VALUE, 127L, 1L << 56, (1L << 56) - 1}) {
      for (int round = 0; round < 1000; round++) {
        check.due("get(), round " + round + " before put(" + next + ")", x.get(), stored);
      }
      x.put(next);
      stored = next;
    }
    check.due("get() at the end", x.get(), stored);
  }
}
