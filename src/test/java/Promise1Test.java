/** Promise 1: a new object is empty, and objects are independent. */
public final class Promise1Test {
  private static final int[] NO_BYTES = {};

  public static void main(String[] args) {
    Check check = new Check();
    emptyAtStart(check);
    noCellAtAnyIndex(check);
    emptyAfterAsking(check);
    independentObjects(check);
    check.end();
  }

  private static void emptyAtStart(Check check) {
    check.due("new: get()", new SqliteVarint().get(), 0);
    for (int i : new int[] {
        Integer.MIN_VALUE, Integer.MIN_VALUE + 1, -256, -9, -1, 0, 1, 7, 8, 9, 10, 255, 256,
        Integer.MAX_VALUE - 1, Integer.MAX_VALUE}) {
      check.due("new: cell(" + i + ")", new SqliteVarint().cell(i), -1);
    }
    check.dueState("new", new SqliteVarint(), 0, NO_BYTES);
  }

  private static void noCellAtAnyIndex(Check check) {
    SqliteVarint x = new SqliteVarint();
    for (int i : Values.indexes()) {
      check.due("new: cell(" + i + ")", x.cell(i), -1);
    }
  }

  private static void emptyAfterAsking(Check check) {
    SqliteVarint x = new SqliteVarint();
    for (int round = 0; round < 20; round++) {
      check.dueState("new, round " + round, x, 0, NO_BYTES);
    }
  }

  private static void independentObjects(Check check) {
    SqliteVarint early = new SqliteVarint();
    SqliteVarint first = new SqliteVarint();
    SqliteVarint second = new SqliteVarint();
    check.duePut("first ", first, -1L, Values.encoding(-1L));
    check.dueState("early, after a put on first", early, 0, NO_BYTES);
    check.dueState("made after a put on first", new SqliteVarint(), 0, NO_BYTES);
    check.duePut("second ", second, 300L, Values.encoding(300L));
    check.dueState("first, after a put on second", first, -1L, Values.encoding(-1L));
    check.duePut("first ", first, 5L, Values.encoding(5L));
    check.dueState("second, after a put on first", second, 300L, Values.encoding(300L));
    check.dueState("early, after all puts", early, 0, NO_BYTES);
  }
}
