import java.util.ArrayList;
import java.util.List;

/** "Nothing here ever throws, for any argument in any state." */
public final class NeverThrowsTest {
  public static void main(String[] args) {
    Check check = new Check();
    dueToReturn(check, "new SqliteVarint()", SqliteVarint::new);
    for (long[] puts : histories()) {
      getReturns(check, puts);
      cellReturns(check, puts);
      putReturns(check, puts);
    }
    check.end();
  }

  private static void dueToReturn(Check check, String call, Runnable body) {
    int thrown = 0;
    try {
      body.run();
    } catch (Throwable t) {
      thrown = 1;
      System.out.println(call + " threw " + t);
    }
    check.due(call + ": number of throws", thrown, 0);
  }

  /** The puts that lead to the empty state, to each length, and from each length to each. */
  private static List<long[]> histories() {
    List<long[]> found = new ArrayList<>();
    found.add(new long[] {});
    for (long last : Values.fullOfEachLength()) {
      found.add(new long[] {last});
      for (long before : Values.leastOfEachLength()) {
        found.add(new long[] {before, last});
        found.add(new long[] {last, before});
      }
    }
    return found;
  }

  private static SqliteVarint after(long[] puts) {
    SqliteVarint x = new SqliteVarint();
    for (long v : puts) {
      x.put(v);
    }
    return x;
  }

  private static String told(long[] puts) {
    StringBuilder text = new StringBuilder("new ");
    for (long v : puts) {
      text.append("put(").append(v).append(") ");
    }
    return text.toString();
  }

  private static void getReturns(Check check, long[] puts) {
    dueToReturn(check, told(puts) + "get()", () -> after(puts).get());
  }

  private static void cellReturns(Check check, long[] puts) {
    for (int i : Values.indexes()) {
      dueToReturn(check, told(puts) + "cell(" + i + ")", () -> after(puts).cell(i));
    }
  }

  private static void putReturns(Check check, long[] puts) {
    for (long v : Values.edges()) {
      dueToReturn(check, told(puts) + "put(" + v + ")", () -> after(puts).put(v));
    }
  }
}
