import java.util.ArrayList;
import java.util.Comparator;
import java.util.List;
import java.util.TreeSet;

// Compares the class with a second program of the document that works on texts and lists,
// and finds the primes by merging cubes, over every set of rows and over long mixed runs.
public final class ModelTest {
  private static int wrong = 0;
  private static long seed = 20261115L;

  // A fixed sequence, so that every run of the test is the same.
  private static int next(int bound) {
    seed = seed * 6364136223846793005L + 1442695040888963407L;
    return (int) ((seed >>> 33) % bound);
  }

  private static void due(String call, int got, int want) {
    if (got != want) {
      wrong++;
      if (wrong <= 50) System.out.println(call + " answered " + got + ", due is " + want);
    }
  }

  private static final class Model {
    final char[] rows = "0000000000000000".toCharArray();
    List<String> primes = new ArrayList<>();
    List<Integer> covers = new ArrayList<>();

    Model() {
      derive();
    }

    static String rowText(int row) {
      return String.format("%4s", Integer.toBinaryString(row)).replace(' ', '0');
    }

    static String cubeText(int cube) {
      return String.format("%4s", Integer.toString(cube, 3)).replace(' ', '0');
    }

    static boolean has(String cube, int row) {
      return rowText(row).matches(cube.replace('2', '.'));
    }

    static int length(String cube) {
      return cube.replace("2", "").length();
    }

    int count(char how) {
      return (int) new String(rows).chars().filter(c -> c == how).count();
    }

    // Two cubes of which one asks for 0 and the other for 1 at one place, and that are the same elsewhere, merge.
    static String merged(String a, String b) {
      for (int k = 0; k < 4; k++) {
        boolean apart = a.charAt(k) == '0' && b.charAt(k) == '1';
        if (apart && a.substring(0, k).equals(b.substring(0, k)) && a.substring(k + 1).equals(b.substring(k + 1))) {
          return a.substring(0, k) + "2" + a.substring(k + 1);
        }
      }
      return "";
    }

    void findPrimes() {
      TreeSet<String> level = new TreeSet<>();
      for (int r = 0; r < 16; r++) if (rows[r] != '0') level.add(rowText(r));
      TreeSet<String> found = new TreeSet<>();
      while (!level.isEmpty()) {
        TreeSet<String> left = new TreeSet<>(level);
        TreeSet<String> above = new TreeSet<>();
        for (String a : level) {
          for (String b : level) {
            String m = merged(a, b);
            if (!m.isEmpty()) {
              above.add(m);
              left.remove(a);
              left.remove(b);
            }
          }
        }
        found.addAll(left);
        level = above;
      }
      primes = new ArrayList<>(found);
    }

    int primesWith(int row) {
      int set = 0;
      for (int i = 0; i < primes.size(); i++) if (has(primes.get(i), row)) set |= 1 << i;
      return set;
    }

    int lengths(int set) {
      int sum = 0;
      for (int i = 0; i < primes.size(); i++) if ((set >> i & 1) == 1) sum += length(primes.get(i));
      return sum;
    }

    void derive() {
      findPrimes();
      List<Integer> clauses = new ArrayList<>();
      for (int r = 0; r < 16; r++) if (rows[r] == '1') clauses.add(primesWith(r));
      covers = new ArrayList<>();
      for (int set = 0; set < 1 << primes.size(); set++) {
        int s = set;
        if (clauses.stream().allMatch(c -> (c & s) != 0)) covers.add(set);
      }
      Comparator<Integer> members = Comparator.comparingInt(Integer::bitCount);
      covers.sort(members.thenComparingInt(this::lengths).thenComparingInt(s -> s));
    }

    int needed() {
      int set = (1 << primes.size()) - 1;
      for (int c : covers) set &= c;
      return set;
    }

    int shortest() {
      int least = Integer.bitCount(covers.get(0));
      return (int) covers.stream().filter(c -> Integer.bitCount(c) == least).count();
    }

    int bestWith(int i) {
      if (i < 0 || i >= primes.size()) return -1;
      for (int c : covers) if ((c >> i & 1) == 1) return Integer.bitCount(c);
      throw new IllegalStateException("no cover has prime " + i);
    }

    int free(int k) {
      for (int a = 0; a < 16; a++) {
        for (int b = 0; b < 16; b++) {
          String left = rowText(a);
          String right = rowText(b);
          boolean justK = left.charAt(k) != right.charAt(k)
              && (left.substring(0, k) + left.substring(k + 1)).equals(right.substring(0, k) + right.substring(k + 1));
          if (justK && rows[a] == '1' && rows[b] == '0') return 0;
        }
      }
      return 1;
    }

    int allowed(int cube) {
      for (int r = 0; r < 16; r++) if (has(cubeText(cube), r) && rows[r] == '0') return 0;
      return 1;
    }

    int fill(int cube, int how) {
      int changed = 0;
      for (int r = 0; r < 16; r++) {
        if (has(cubeText(cube), r)) {
          if (rows[r] != '0' + how) changed++;
          rows[r] = (char) ('0' + how);
        }
      }
      derive();
      return changed;
    }

    int load(int ons, int opens) {
      for (int r = 0; r < 16; r++) rows[r] = (ons >> r & 1) == 1 ? '1' : (opens >> r & 1) == 1 ? '2' : '0';
      derive();
      return count('1');
    }

    int invert() {
      for (int r = 0; r < 16; r++) rows[r] = rows[r] == '1' ? '0' : rows[r] == '0' ? '1' : '2';
      derive();
      return count('1');
    }

    int set(int row, int how) {
      int before = rows[row] - '0';
      rows[row] = (char) ('0' + how);
      derive();
      return before;
    }
  }

  private static void compareCovers(String when, CubeMinimiser x, Model m) {
    int best = m.covers.get(0);
    due(when + " needed()", x.needed(), m.needed());
    due(when + " best()", x.best(), Integer.bitCount(best));
    due(when + " bestLength()", x.bestLength(), m.lengths(best));
    due(when + " bestCover()", x.bestCover(), best);
    due(when + " shortest()", x.shortest(), m.shortest());
    for (int i = -1; i <= m.primes.size(); i++) due(when + " bestWith(" + i + ")", x.bestWith(i), m.bestWith(i));
    int end = 1 << m.primes.size();
    for (int n = 0; n < 12; n++) {
      int set = next(end);
      due(when + " covers(" + set + ")", x.covers(set), m.covers.contains(set) ? 1 : 0);
    }
    due(when + " covers(" + end + ")", x.covers(end), -1);
    due(when + " covers(" + (end - 1) + ")", x.covers(end - 1), 1);
  }

  private static void compareRest(String when, CubeMinimiser x, Model m) {
    due(when + " primes()", x.primes(), m.primes.size());
    for (int i = 0; i < m.primes.size(); i++) {
      due(when + " prime(" + i + ")", x.prime(i), Integer.parseInt(m.primes.get(i), 3));
    }
    due(when + " prime past the last", x.prime(m.primes.size()), -1);
    for (int r = 0; r < 16; r++) {
      due(when + " row(" + r + ")", x.row(r), m.rows[r] - '0');
      due(when + " primesWith(" + r + ")", x.primesWith(r), m.primesWith(r));
    }
    for (int k = 0; k < 4; k++) due(when + " free(" + k + ")", x.free(k), m.free(k));
    for (int n = 0; n < 6; n++) {
      int cube = next(81);
      due(when + " allowed(" + cube + ")", x.allowed(cube), m.allowed(cube));
    }
  }

  // Answers how many calls were made at most, so that no object is used beyond the 512th.
  private static int compare(String when, CubeMinimiser x, Model m) {
    compareCovers(when, x, m);
    compareRest(when, x, m);
    return 110;
  }

  private static void sizes() {
    CubeMinimiser x = new CubeMinimiser();
    for (int cube = 0; cube < 81; cube++) {
      int want = 0;
      for (int r = 0; r < 16; r++) if (Model.has(Model.cubeText(cube), r)) want++;
      due("size(" + cube + ")", x.size(cube), want);
    }
  }

  private static void compareLoaded(int ons, int opens) {
    CubeMinimiser x = new CubeMinimiser();
    Model m = new Model();
    String call = "load(" + ons + ", " + opens + ")";
    due(call, x.load(ons, opens), m.load(ons, opens));
    compare(call, x, m);
  }

  // Each set of rows that are not off once, with a part of them left open or, for every third, none.
  private static void everySetOfRows() {
    int most = 0;
    for (int rows = 0; rows < 65536; rows++) {
      int opens = rows % 3 == 0 ? 0 : rows & next(65536);
      compareLoaded(rows & ~opens, opens);
      CubeMinimiser x = new CubeMinimiser();
      x.load(rows, 0);
      if (x.primes() > 11) compareLoaded(rows, 0);
      most = Math.max(most, x.primes());
    }
    due("the most primes of any set of rows", most, 13);
  }

  private static int change(String when, CubeMinimiser x, Model m) {
    int kind = next(8);
    int row = next(16);
    int cube = next(81);
    int how = next(3);
    int ons = next(65536);
    int opens = next(65536);
    if (kind < 4) due(when + " set(" + row + ", " + how + ")", x.set(row, how), m.set(row, how));
    else if (kind < 6) due(when + " fill(" + cube + ", " + how + ")", x.fill(cube, how), m.fill(cube, how));
    else if (kind < 7) due(when + " load(" + ons + ", " + opens + ")", x.load(ons, opens), m.load(ons, opens));
    else due(when + " invert()", x.invert(), m.invert());
    // Refused calls stand between the others; the next comparison tells if one changed anything.
    due(when + " set(16, 1)", x.set(16, 1), -1);
    due(when + " fill(80, 3)", x.fill(80, 3), -2);
    due(when + " load(0, 65536)", x.load(0, 65536), -2);
    return 4;
  }

  private static void mixedRuns() {
    for (int run = 0; run < 300; run++) {
      CubeMinimiser x = new CubeMinimiser();
      Model m = new Model();
      int calls = 0;
      while (calls <= 512 - 4 - 110) {
        calls += change("run " + run, x, m);
        if (next(4) == 0) calls += compare("run " + run, x, m);
      }
    }
  }

  public static void main(String[] args) {
    sizes();
    everySetOfRows();
    mixedRuns();
    System.out.println(wrong == 0 ? "all answers are as due" : wrong + " answers are not as due");
    if (wrong != 0) System.exit(1);
  }
}
