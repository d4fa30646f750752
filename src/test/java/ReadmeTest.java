import java.io.IOException;
import java.lang.reflect.Method;
import java.lang.reflect.Modifier;
import java.nio.file.Files;
import java.nio.file.Path;
import java.util.ArrayList;
import java.util.Arrays;
import java.util.List;
import java.util.Set;
import java.util.TreeSet;
import java.util.regex.Matcher;
import java.util.regex.Pattern;

// Each answer that README.md names must be the one that the class gives, and the one that the document asks for: the
// second are worked out by hand below. It is run from the project's folder.
public final class ReadmeTest {
  private static final Pattern CALL = Pattern.compile("x\\.(\\w+)\\(([-0-9, ]*)\\); +// (-?[0-9]+)(: .*)?");
  private static final Pattern PRIMES = Pattern.compile(": primes ([0-9]+(, [0-9]+)* and [0-9]+)( .*)?");
  private static final String NEW_OBJECT = "CubeMinimiser x = new CubeMinimiser();";

  // The rows 1 .. 6 are a ring: the primes have the rows 2 3, 1 3, 4 5, 4 6, 1 5, 2 6. Three of them have each row
  // only if every second one of the ring is taken: 0, 3, 4 (25) or 1, 2, 5 (38). With row 1 open, 13 is a cover too:
  // its primes have 2 3, 4 5, 4 6. It is the best: a cover needs 0 or 1 for row 3, 2 or 4 for row 5 and 3 or 5 for
  // row 6, so no cover of three is less than 1 + 4 + 8, and each prime has length 3.
  // After fill and invert the rows 0 and 7 are on, 2 .. 6 off, the others open. The primes are 53 (b0 = 1), 56
  // (b1 = 0 and b2 = 0: rows 0, 1, 8, 9) and 67 (rows 7 and 15): row 0 needs prime 1, and row 7 prime 2.
  private static final String[] USE = {
      "row(6) 0", "load(126, 0) 6", "row(6) 1", "size(5) 2", "allowed(5) 1", "allowed(8) 0", "primes() 6", "prime(0) 5",
      "primesWith(2) 33", "needed() 0", "best() 3", "bestLength() 9", "bestCover() 25", "covers(38) 1", "covers(7) 0",
      "shortest() 2", "bestWith(1) 3", "free(0) 0", "set(1, 2) 1", "bestCover() 13", "fill(53, 2) 8", "free(0) 1",
      "invert() 2", "needed() 6"};
  private static final String[] REFUSALS = {
      "row(16) -1", "size(81) -1", "set(0, 3) -2", "load(0, 65536) -2", "prime(0) -1", "covers(1) -1", "free(4) -1"};

  private static int wrong = 0;

  private static void due(String what, Object got, Object want) {
    if (!got.equals(want)) {
      wrong++;
      System.out.println(what + " is " + got + ", due is " + want);
    }
  }

  // The lines of each part of README.md that is marked as Java.
  private static List<List<String>> javaParts() throws IOException {
    List<List<String>> parts = new ArrayList<>();
    boolean inside = false;
    for (String line : Files.readAllLines(Path.of("README.md"))) {
      if (line.equals("```java")) {
        inside = true;
        parts.add(new ArrayList<>());
      } else if (line.startsWith("```")) {
        inside = false;
      } else if (inside) {
        parts.get(parts.size() - 1).add(line);
      }
    }
    return parts;
  }

  private static int answer(CubeMinimiser x, String name, String arguments) throws ReflectiveOperationException {
    Object[] values = Pattern.compile("-?[0-9]+").matcher(arguments).results().map(v -> Integer.valueOf(v.group())).toArray();
    Class<?>[] types = new Class<?>[values.length];
    Arrays.fill(types, int.class);
    Method method = CubeMinimiser.class.getMethod(name, types);
    return (Integer) method.invoke(x, values);
  }

  // Where the answer is a set, or the call is given one, the text names its members: their sum must be that number.
  private static void membersAreRight(String line, String name, String arguments, String answer, String text) {
    Matcher named = PRIMES.matcher(text);
    if (!named.matches()) return;
    int sum = 0;
    for (String member : named.group(1).split(", | and ")) sum += 1 << Integer.parseInt(member);
    due("the set in '" + line + "'", String.valueOf(sum), name.equals("covers") ? arguments : answer);
  }

  private static void replay(List<String> lines, String[] want, Set<String> shown) throws ReflectiveOperationException {
    due("the first line", lines.get(0), NEW_OBJECT);
    CubeMinimiser x = new CubeMinimiser();
    List<String> told = new ArrayList<>();
    for (String line : lines.subList(1, lines.size())) {
      Matcher call = CALL.matcher(line);
      if (!call.matches()) {
        due("the form of a line", line, "x.method(arguments); // answer");
        continue;
      }
      String name = call.group(1);
      due("the answer to '" + line + "'", answer(x, name, call.group(2)), Integer.valueOf(call.group(3)));
      if (call.group(4) != null) membersAreRight(line, name, call.group(2), call.group(3), call.group(4));
      told.add(name + "(" + call.group(2) + ") " + call.group(3));
      shown.add(name);
    }
    due("what README.md tells", told, Arrays.asList(want));
  }

  // What the comments in README.md tell beside the answers.
  private static void otherClaims() {
    CubeMinimiser x = new CubeMinimiser();
    x.load(126, 0);
    for (int row = 0; row < 16; row++) due("row(" + row + ") of the ring", x.row(row), row >= 1 && row <= 6 ? 1 : 0);
    due("the primes with row 6", x.primesWith(6), 8 + 32);
    x.set(1, 2);
    due("row 1, set open", x.row(1), 2);
    x.fill(53, 2);
    for (int row = 8; row < 16; row++) due("row(" + row + ") after fill", x.row(row), 2);
    x.invert();
    for (int row = 0; row < 16; row++) {
      int want = row == 0 || row == 7 ? 1 : row == 1 || row >= 8 ? 2 : 0;
      due("row(" + row + ") after invert", x.row(row), want);
    }
    int[] cubes = {53, 56, 67};
    due("primes() after invert", x.primes(), 3);
    for (int i = 0; i < 3; i++) due("prime(" + i + ") after invert", x.prime(i), cubes[i]);
  }

  // A cube has a row if the cube's rows, and no others, were turned on by it.
  private static void cubesOfTheText() {
    CubeMinimiser x = new CubeMinimiser();
    x.fill(Integer.parseInt("0012", 3), 1);
    for (int row = 0; row < 16; row++) due("row(" + row + ") of 0012", x.row(row), row == 2 || row == 3 ? 1 : 0);
    due("0012", Integer.parseInt("0012", 3), 5);
    due("0022", Integer.parseInt("0022", 3), 8);
    x.load(0, 0);
    x.fill(8, 1);
    for (int row = 0; row < 16; row++) due("row(" + row + ") of 0022", x.row(row), row < 4 ? 1 : 0);
  }

  private static void everyMethodIsShown(Set<String> shown) {
    Set<String> face = new TreeSet<>();
    for (Method m : CubeMinimiser.class.getDeclaredMethods()) {
      if (Modifier.isPublic(m.getModifiers())) face.add(m.getName());
    }
    due("the set of methods that README.md shows", shown, face);
  }

  public static void main(String[] args) throws IOException, ReflectiveOperationException {
    List<List<String>> parts = javaParts();
    due("the number of Java parts in README.md", parts.size(), 2);
    if (parts.size() == 2) {
      Set<String> shown = new TreeSet<>();
      replay(parts.get(0), USE, shown);
      everyMethodIsShown(shown);
      replay(parts.get(1), REFUSALS, new TreeSet<>());
    }
    otherClaims();
    cubesOfTheText();
    System.out.println(wrong == 0 ? "README.md is as due" : wrong + " things are not as due");
    if (wrong != 0) System.exit(1);
  }
}
