/** Counts the answers that are not as due, for one test's main method. */
final class Check {
  private int wrong = 0;
  private int asked = 0;

  void due(String call, long got, long want) {
    asked++;
    if (got != want) {
      wrong++;
      System.out.println(call + " answered " + got + ", due is " + want);
    }
  }

  /** Every answer of x that shows its state: get, each cell, and the cells just outside. */
  void dueState(String after, SqliteVarint x, long value, int[] bytes) {
    for (int i = 0; i < bytes.length; i++) {
      due(after + ": cell(" + i + ")", x.cell(i), bytes[i]);
    }
    for (int i = bytes.length; i <= 16; i++) {
      due(after + ": cell(" + i + ")", x.cell(i), -1);
    }
    due(after + ": cell(-1)", x.cell(-1), -1);
    due(after + ": get()", x.get(), value);
  }

  void duePut(String before, SqliteVarint x, long v, int[] bytes) {
    String call = before + "put(" + v + ")";
    due(call, x.put(v), bytes.length);
    dueState(call, x, v, bytes);
  }

  void end() {
    if (asked == 0) {
      wrong++;
      System.out.println("nothing was asked");
    }
    System.out.println(asked + " answers, " + wrong + " not as due");
    if (wrong != 0) {
      System.exit(1);
    }
  }
}
