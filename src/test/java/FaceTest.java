import java.lang.reflect.Array;
import java.lang.reflect.Constructor;
import java.lang.reflect.Field;
import java.lang.reflect.Method;
import java.lang.reflect.Modifier;
import java.util.ArrayDeque;
import java.util.Collections;
import java.util.IdentityHashMap;
import java.util.Set;
import java.util.TreeSet;

/** The public face, the rules of LANGUAGE.md that can be seen from the class, and the room that an object takes. */
public final class FaceTest {
  private static final Set<String> CALLS = Set.of("sign(boolean, int, int)", "draft(int)", "given()", "wipe()",
      "turns(int)", "fuel(int)", "run(int)", "clear()", "claim(int, int)", "literal(int, int, int)", "step(int, int)",
      "forge(int, int, int)", "judge(int)", "proof(int)", "order(int, int, int, int)", "takesIn(int, int)",
      "count(int)", "digest()");
  private static final Set<String> CONSTANTS = Set.of("NONE", "BAD", "STATE", "FULL");

  private static void is(String what, boolean so) {
    Due.due(what, so ? 1 : 0, 1);
  }

  private static void face() {
    Class<?> c = ClaimHall.class;
    is("public and final", Modifier.isPublic(c.getModifiers()) && Modifier.isFinal(c.getModifiers()));
    Set<String> calls = new TreeSet<>();
    Set<String> names = new TreeSet<>();
    for (Method m : c.getDeclaredMethods()) {
      if (Modifier.isPublic(m.getModifiers())) {
        String all = m.toString();
        calls.add(m.getName() + all.substring(all.indexOf('(')).replace(",", ", "));
        names.add(m.getName());
        is(m.getName() + " answers a number", m.getReturnType() == (m.getName().equals("digest") ? long.class : int.class));
      }
    }
    is("the calls " + calls, calls.equals(CALLS));
    for (Method m : c.getDeclaredMethods()) {
      is(m.getName() + " is public or private", Modifier.isPublic(m.getModifiers())
          || Modifier.isPrivate(m.getModifiers()) && !names.contains(m.getName()));
    }
    Set<String> constants = new TreeSet<>();
    for (Field f : c.getDeclaredFields()) {
      if (Modifier.isPublic(f.getModifiers())) constants.add(f.getName());
      else is(f.getName() + " is private", Modifier.isPrivate(f.getModifiers()));
      if (Modifier.isStatic(f.getModifiers())) is(f.getName() + " is final", Modifier.isFinal(f.getModifiers()));
    }
    is("the constants " + constants, constants.equals(CONSTANTS));
    Constructor<?>[] makers = c.getDeclaredConstructors();
    is("one constructor", makers.length == 1 && makers[0].getParameterCount() == 0);
    is("at most twelve classes", c.getDeclaredClasses().length < 12);
    for (Class<?> inside : c.getDeclaredClasses()) {
      is(inside + " is private and static", Modifier.isStatic(inside.getModifiers()) && Modifier.isPrivate(inside.getModifiers()));
      for (Method m : inside.getDeclaredMethods()) {
        is(m.getName() + " of " + inside + " has another name", !names.contains(m.getName()));
        is(m.getName() + " takes seven at most", m.getParameterCount() <= 7);
      }
    }
  }

  /** How many objects and elements hang on one object. */
  private static long[] room(Object root) throws IllegalAccessException {
    Set<Object> seen = Collections.newSetFromMap(new IdentityHashMap<>());
    ArrayDeque<Object> open = new ArrayDeque<>();
    open.add(root);
    seen.add(root);
    long elements = 0;
    while (!open.isEmpty()) {
      Object o = open.remove();
      if (o.getClass().isArray()) {
        int length = Array.getLength(o);
        elements += length;
        for (int k = 0; k < length && !o.getClass().getComponentType().isPrimitive(); k++) {
          Object there = Array.get(o, k);
          if (there != null && seen.add(there)) open.add(there);
        }
        continue;
      }
      for (Field f : o.getClass().getDeclaredFields()) {
        if (Modifier.isStatic(f.getModifiers())) continue;
        elements++;
        f.setAccessible(true);
        Object there = f.getType().isPrimitive() ? null : f.get(o);
        if (there != null && seen.add(there)) open.add(there);
      }
    }
    return new long[] {seen.size(), elements};
  }

  private static void roomOf() throws IllegalAccessException {
    ClaimHall x = new ClaimHall();
    long[] fresh = room(x);
    is("a new object is small: " + fresh[0] + ", " + fresh[1], fresh[0] < 100 && fresh[1] < 10000);
    x.sign(false, 0, 1);
    x.sign(false, 1, 1);
    x.sign(true, 3, 1);
    for (int n = 0; n < 3; n++) {
      Due.give(x, 1003, 1, 1, 1);
      Due.give(x, 2003, -1, -2, -3, 1003, 2, -1, -2, -3);
      Due.give(x, 2003, -1, -2, -3, 1003, -1, 2, -2, -3);
      Due.give(x, 2003, -1, -2, -3, 1003, -1, -2, 2, -3);
      x.run(200);
      Due.due("KEPT", x.count(1), 150);
      if (n < 2) x.clear();
    }
    long[] full = room(x);
    is("a full one, too: " + full[0] + ", " + full[1], full[0] < 2000 && full[1] < 60000);
  }

  public static void main(String[] args) throws IllegalAccessException {
    face();
    roomOf();
    Due.end("FaceTest");
  }
}
