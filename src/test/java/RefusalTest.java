import java.util.function.IntBinaryOperator;
import java.util.function.IntUnaryOperator;

// Each sentence of the document that refuses an argument: the ends of what is taken, the numbers just beyond them,
// the least and the greatest int, and numbers that seem good when upper bits are lost; and which of two refusals
// comes first.
public final class RefusalTest {
  private static final int MIN = Integer.MIN_VALUE;
  private static final int MAX = Integer.MAX_VALUE;
  // The rows to turn on for 0 .. 13 primes. Up to 8, no two rows are neighbours, so each is a prime. The other five
  // are parts of the last: EdgeTest says how its primes lie.
  private static final int[] FOR_PRIMES = {0, 2, 6, 22, 150, 406, 2454, 10646, 27030,
      27581 - 16384 - 1, 27581 - 16384 - 4, 27581 - 4, 27581 - 16384, 27581};
  private static int wrong = 0;

  private static void due(String call, int got, int want) {
    if (got != want) {
      wrong++;
      System.out.println(call + " answered " + got + ", due is " + want);
    }
  }

  private static CubeMinimiser loaded(int ons, int opens) {
    CubeMinimiser x = new CubeMinimiser();
    x.load(ons, opens);
    return x;
  }

  private static int[] beyond(int last) {
    return new int[] {-1, -2, -32, -128, -65536, MIN, MIN + 1, MIN + last,
        last + 1, last + 2, last + 32, last + 256, last + 65536, 1 << 30, MAX, MAX - 1};
  }

  private static void refuses(String call, int last, int want, IntUnaryOperator method) {
    for (int bad : beyond(last)) due(call + " with " + bad, method.applyAsInt(bad), want);
  }

  private static void takes(String call, int good, IntUnaryOperator method) {
    int got = method.applyAsInt(good);
    if (got < 0) due(call + " with " + good + ", which is good,", got, 0);
  }

  // An argument that is taken from 0 to last, and refused with -1 beyond.
  private static void oneArgument(String call, int last, IntUnaryOperator method) {
    takes(call, 0, method);
    takes(call, last, method);
    refuses(call, last, -1, method);
  }

  // Two arguments: the first refused with -1, the second with -2, and the first looked at first.
  private static void twoArguments(String call, int last, int secondLast, IntBinaryOperator method) {
    for (int second : new int[] {0, secondLast}) {
      oneArgument(call + ", the first,", last, first -> method.applyAsInt(first, second));
    }
    for (int first : new int[] {0, last}) {
      refuses(call + ", the second,", secondLast, -2, second -> method.applyAsInt(first, second));
    }
    for (int second : beyond(secondLast)) {
      refuses(call + ", the first, before the second", last, -1, first -> method.applyAsInt(first, second));
    }
  }

  // "-1 if row is not good; -2 if how is not in 0 .. 2"
  private static void set() {
    twoArguments("2 set", 15, 2, (row, how) -> new CubeMinimiser().set(row, how));
    twoArguments("2 set, all on,", 15, 2, (row, how) -> loaded(65535, 0).set(row, how));
  }

  // "-1 if cube is not good; -2 if how is not in 0 .. 2"
  private static void fill() {
    twoArguments("3 fill", 80, 2, (cube, how) -> new CubeMinimiser().fill(cube, how));
    twoArguments("3 fill, all on,", 80, 2, (cube, how) -> loaded(65535, 0).fill(cube, how));
  }

  // "-1 if ons is not in 0 .. 65535; -2 if opens is not in 0 .. 65535"
  private static void load() {
    twoArguments("4 load", 65535, 65535, (ons, opens) -> new CubeMinimiser().load(ons, opens));
  }

  // "What a row is; -1 if it is not good."
  private static void row() {
    oneArgument("6 row", 15, row -> new CubeMinimiser().row(row));
    oneArgument("6 row, all on,", 15, row -> loaded(65535, 0).row(row));
  }

  // "How many rows a cube has; -1 if cube is not good."
  private static void size() {
    oneArgument("7 size", 80, cube -> new CubeMinimiser().size(cube));
  }

  // "1 if the cube is allowed, otherwise 0; -1 if cube is not good."
  private static void allowed() {
    oneArgument("8 allowed", 80, cube -> new CubeMinimiser().allowed(cube));
    oneArgument("8 allowed, all on,", 80, cube -> loaded(65535, 0).allowed(cube));
  }

  // "The set of the primes that have a row; -1 if row is not good."
  private static void primesWith() {
    oneArgument("11 primesWith", 15, row -> new CubeMinimiser().primesWith(row));
    oneArgument("11 primesWith, all on,", 15, row -> loaded(65535, 0).primesWith(row));
  }

  // "-1 if k is not in 0 .. 3."
  private static void free() {
    oneArgument("19 free", 3, k -> new CubeMinimiser().free(k));
    oneArgument("19 free, row 0 on,", 3, k -> loaded(1, 0).free(k));
  }

  // "The number, as a cube, of a prime; -1 if there is no such prime."
  private static void prime() {
    for (int p = 0; p <= 13; p++) {
      CubeMinimiser x = loaded(FOR_PRIMES[p], 0);
      due("9 primes, of " + p + ",", x.primes(), p);
      for (int i = 0; i < p; i++) takes("10 prime, of " + p + ",", i, x::prime);
      refuses("10 prime, of " + p + ",", p - 1, -1, x::prime);
    }
  }

  // "-1 if set is not in 0 .. 2^p - 1 for p primes."
  private static void covers() {
    for (int p = 0; p <= 13; p++) {
      CubeMinimiser x = loaded(FOR_PRIMES[p], 0);
      oneArgument("16 covers, of " + p + ",", (1 << p) - 1, x::covers);
    }
  }

  // "The least number of members of a cover that has the prime. -1 if there is no such prime."
  private static void bestWith() {
    for (int p = 0; p <= 13; p++) {
      CubeMinimiser x = loaded(FOR_PRIMES[p], 0);
      for (int i = 0; i < p; i++) takes("18 bestWith, of " + p + ",", i, x::bestWith);
      refuses("18 bestWith, of " + p + ",", p - 1, -1, x::bestWith);
    }
  }

  // A prime that was there before is no such prime any more.
  private static void primesThatAreGone() {
    for (int p = 0; p < 13; p++) {
      CubeMinimiser x = loaded(27581, 0);
      x.load(FOR_PRIMES[p], 0);
      for (int i = p; i <= 13; i++) {
        due("10 prime(" + i + "), of " + p + " after 13,", x.prime(i), -1);
        due("16 covers(" + (1 << i) + "), of " + p + " after 13,", x.covers(1 << i), -1);
        due("18 bestWith(" + i + "), of " + p + " after 13,", x.bestWith(i), -1);
      }
    }
  }

  public static void main(String[] args) {
    set();
    fill();
    load();
    row();
    size();
    allowed();
    primesWith();
    free();
    prime();
    covers();
    bestWith();
    primesThatAreGone();
    System.out.println(wrong == 0 ? "all answers are as due" : wrong + " answers are not as due");
    if (wrong != 0) System.exit(1);
  }
}
