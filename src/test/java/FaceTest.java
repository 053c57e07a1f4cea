import java.lang.reflect.Constructor;
import java.lang.reflect.Field;
import java.lang.reflect.Method;
import java.lang.reflect.Modifier;
import java.util.Set;
import java.util.TreeSet;

/** The public face: the document's constructor and methods, and nothing else outside private. */
public final class FaceTest {
  public static void main(String[] args) {
    Check check = new Check();
    Class<?> face = SqliteVarint.class;
    check.due("the class is public", Modifier.isPublic(face.getModifiers()) ? 1 : 0, 1);
    check.due("the class is final", Modifier.isFinal(face.getModifiers()) ? 1 : 0, 1);
    check.due("nested classes", face.getDeclaredClasses().length, 0);

    Set<String> found = new TreeSet<>();
    for (Constructor<?> c : face.getDeclaredConstructors()) {
      found.add(c.toString());
    }
    for (Method m : face.getDeclaredMethods()) {
      if (!Modifier.isPrivate(m.getModifiers())) {
        found.add(m.toString());
      }
    }
    for (Field f : face.getDeclaredFields()) {
      if (!Modifier.isPrivate(f.getModifiers())) {
        found.add(f.toString());
      }
    }
    Set<String> due = new TreeSet<>(Set.of(
        "public SqliteVarint()",
        "public int SqliteVarint.put(long)",
        "public long SqliteVarint.get()",
        "public int SqliteVarint.cell(int)"));
    if (!found.equals(due)) {
      System.out.println("the face is " + found + ", due is " + due);
    }
    check.due("the face is the document's", found.equals(due) ? 1 : 0, 1);
    check.end();
  }
}
