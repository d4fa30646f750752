import java.lang.reflect.Constructor;
import java.lang.reflect.Field;
import java.lang.reflect.Method;
import java.lang.reflect.Modifier;
import java.util.Arrays;
import java.util.Set;
import java.util.TreeSet;

// The public face is the document's and no more, and what can be seen of LANGUAGE.md from outside holds.
public final class FaceTest {
  private static int wrong = 0;

  private static void due(String what, Object got, Object want) {
    if (!got.equals(want)) {
      wrong++;
      System.out.println(what + " is " + got + ", due is " + want);
    }
  }

  private static void methods() {
    Set<String> open = new TreeSet<>();
    Set<String> openNames = new TreeSet<>();
    Set<String> hiddenNames = new TreeSet<>();
    for (Method m : CubeMinimiser.class.getDeclaredMethods()) {
      if (Modifier.isPrivate(m.getModifiers())) {
        hiddenNames.add(m.getName());
        continue;
      }
      openNames.add(m.getName());
      open.add(m.toGenericString());
    }
    Set<String> want = new TreeSet<>();
    for (String face : new String[] {"set(int,int)", "fill(int,int)", "load(int,int)", "invert()", "row(int)", "size(int)",
        "allowed(int)", "primes()", "prime(int)", "primesWith(int)", "needed()", "best()", "bestLength()", "bestCover()",
        "covers(int)", "shortest()", "bestWith(int)", "free(int)"}) {
      want.add("public int CubeMinimiser." + face);
    }
    due("the set of methods that are not private", open, want);
    hiddenNames.retainAll(openNames);
    due("the set of private methods with a public name", hiddenNames, new TreeSet<String>());
  }

  private static void fields() {
    for (Field f : CubeMinimiser.class.getDeclaredFields()) {
      due(f.getName() + " private", Modifier.isPrivate(f.getModifiers()), true);
      boolean constant = Modifier.isStatic(f.getModifiers());
      if (constant) {
        due(f.getName() + " final", Modifier.isFinal(f.getModifiers()), true);
        due(f.getName() + " int or long", f.getType() == int.class || f.getType() == long.class, true);
      }
      Class<?> part = f.getType().isArray() ? f.getType().getComponentType() : f.getType();
      due(f.getName() + " of whole numbers", part.isPrimitive() && part != float.class && part != double.class, true);
    }
  }

  public static void main(String[] args) {
    methods();
    fields();
    int modifiers = CubeMinimiser.class.getModifiers();
    due("the class", Modifier.toString(modifiers), "public final");
    Constructor<?>[] made = CubeMinimiser.class.getDeclaredConstructors();
    due("the constructors", Arrays.toString(made), "[public CubeMinimiser()]");
    due("the nested classes", CubeMinimiser.class.getDeclaredClasses().length, 0);
    System.out.println(wrong == 0 ? "the face is as due" : wrong + " things are not as due");
    if (wrong != 0) System.exit(1);
  }
}
