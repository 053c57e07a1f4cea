import java.lang.reflect.Constructor;
import java.lang.reflect.Field;
import java.lang.reflect.Method;
import java.lang.reflect.Modifier;
import java.util.Set;
import java.util.TreeSet;

/** The public face: the document's constructor and methods, and nothing else visible. */
public final class FaceTest {
  public static void main(String[] args) {
    Check check = new Check();
    Class<?> face = SqliteVarint.class;
    check.due("the class is public", Modifier.isPublic(face.getModifiers()) ? 1 : 0, 1);
    check.due("the class is final", Modifier.isFinal(face.getModifiers()) ? 1 : 0, 1);
    check.due("nested classes", face.getDeclaredClasses().length, 0);
    nothingInherited(check, face);
    publicNamesStandOnce(check, face);
    membersOfTheDocument(check, face);
    check.end();
  }

  /** A constant or method that came from a parent would be public here without being declared. */
  private static void nothingInherited(Check check, Class<?> face) {
    check.due("the parent is Object", face.getSuperclass() == Object.class ? 1 : 0, 1);
    check.due("interfaces", face.getInterfaces().length, 0);
    check.due("public constants", face.getFields().length, 0);
  }

  /** LANGUAGE.md, rule 1: no private method bears the name of a public one. */
  private static void publicNamesStandOnce(Check check, Class<?> face) {
    for (String name : new String[] {"put", "get", "cell"}) {
      int methods = 0;
      for (Method m : face.getDeclaredMethods()) {
        if (m.getName().equals(name)) {
          methods++;
        }
      }
      check.due("methods named " + name, methods, 1);
    }
  }

  private static void membersOfTheDocument(Check check, Class<?> face) {
    Set<String> found = new TreeSet<>();
    for (Constructor<?> c : face.getDeclaredConstructors()) {
      found.add(c.toString());
    }
    for (Method m : face.getDeclaredMethods()) {
      if (!Modifier.isPrivate(m.getModifiers())) {
        found.add(m.toString());
      }
    }
    for (Field f : face.getDeclaredFields()) {
      if (!Modifier.isPrivate(f.getModifiers())) {
        found.add(f.toString());
      }
    }
    Set<String> due = new TreeSet<>(Set.of(
        "public SqliteVarint()",
        "public int SqliteVarint.put(long)",
        "public long SqliteVarint.get()",
        "public int SqliteVarint.cell(int)"));
    if (!found.equals(due)) {
      System.out.println("the face is " + found + ", due is " + due);
    }
    check.due("the face is the document's", found.equals(due) ? 1 : 0, 1);
  }
}
