import java.util.ArrayList;
import java.util.List;
import java.util.function.ToIntFunction;

// "An object is used for at most 512 calls after it has been made": the 512th is answered like any other, for each
// method, whatever the 511 before it were.
public final class LastCallTest {
  private static final int CALLS = 512;
  private static int wrong = 0;

  private record Call(String name, ToIntFunction<CubeMinimiser> method, int want) { }

  private static Call call(String name, int want, ToIntFunction<CubeMinimiser> method) {
    return new Call(name, method, want);
  }

  private static void make(CubeMinimiser x, int number, String before, Call c) {
    int got = c.method().applyAsInt(x);
    if (got != c.want()) {
      wrong++;
      String which = "call " + number + " after " + before + ": " + c.name();
      if (wrong <= 50) System.out.println(which + " answered " + got + ", due is " + c.want());
    }
  }

  // Rows 2 .. 6 are on and row 1 is open. The primes have the rows 2 3, 1 3, 4 5, 4 6, 1 5, 2 6; the covers of three
  // are 13, 25, 37 and 38.
  private static final Call LOAD = call("load(124, 2)", 5, x -> x.load(124, 2));

  private static List<Call> changes() {
    return List.of(
        call("set(1, 0)", 2, x -> x.set(1, 0)),
        call("set(3, 1)", 1, x -> x.set(3, 1)),
        call("set(15, 2)", 0, x -> x.set(15, 2)),
        call("fill(80, 1)", 11, x -> x.fill(80, 1)),
        call("load(126, 0)", 6, x -> x.load(126, 0)),
        call("invert()", 10, CubeMinimiser::invert));
  }

  private static List<Call> refusals() {
    return List.of(
        call("set(16, 1)", -1, x -> x.set(16, 1)),
        call("set(0, 3)", -2, x -> x.set(0, 3)),
        call("fill(81, 1)", -1, x -> x.fill(81, 1)),
        call("fill(80, -1)", -2, x -> x.fill(80, -1)),
        call("load(65536, 0)", -1, x -> x.load(65536, 0)),
        call("load(0, 65536)", -2, x -> x.load(0, 65536)),
        call("row(16)", -1, x -> x.row(16)),
        call("size(81)", -1, x -> x.size(81)),
        call("allowed(81)", -1, x -> x.allowed(81)),
        call("prime(6)", -1, x -> x.prime(6)),
        call("primesWith(16)", -1, x -> x.primesWith(16)),
        call("covers(64)", -1, x -> x.covers(64)),
        call("bestWith(6)", -1, x -> x.bestWith(6)),
        call("free(4)", -1, x -> x.free(4)));
  }

  private static List<Call> questions() {
    return List.of(
        call("row(1)", 2, x -> x.row(1)),
        call("row(6)", 1, x -> x.row(6)),
        call("row(7)", 0, x -> x.row(7)),
        call("size(80)", 16, x -> x.size(80)),
        call("allowed(7)", 1, x -> x.allowed(7)),
        call("allowed(8)", 0, x -> x.allowed(8)),
        call("primes()", 6, CubeMinimiser::primes),
        call("prime(5)", 21, x -> x.prime(5)),
        call("primesWith(2)", 33, x -> x.primesWith(2)),
        call("needed()", 0, CubeMinimiser::needed),
        call("best()", 3, CubeMinimiser::best),
        call("bestLength()", 9, CubeMinimiser::bestLength),
        call("bestCover()", 13, CubeMinimiser::bestCover),
        call("covers(37)", 1, x -> x.covers(37)),
        call("covers(7)", 0, x -> x.covers(7)),
        call("shortest()", 4, CubeMinimiser::shortest),
        call("bestWith(4)", 3, x -> x.bestWith(4)),
        call("free(0)", 0, x -> x.free(0)));
  }

  // Each pair leaves the rows as they were.
  private static List<List<Call>> pairsOfChanges() {
    return List.of(
        List.of(call("invert()", 10, CubeMinimiser::invert), call("invert()", 5, CubeMinimiser::invert)),
        List.of(call("set(0, 1)", 0, x -> x.set(0, 1)), call("set(0, 0)", 1, x -> x.set(0, 0))),
        List.of(call("set(1, 1)", 2, x -> x.set(1, 1)), call("set(1, 2)", 1, x -> x.set(1, 2))),
        List.of(call("fill(5, 0)", 2, x -> x.fill(5, 0)), call("fill(5, 1)", 2, x -> x.fill(5, 1))),
        List.of(call("fill(80, 2)", 15, x -> x.fill(80, 2)), LOAD),
        List.of(LOAD, LOAD));
  }

  private static List<Call> allKinds() {
    List<Call> mix = new ArrayList<>();
    for (List<Call> pair : pairsOfChanges()) mix.addAll(pair);
    mix.addAll(refusals());
    mix.addAll(questions());
    return mix;
  }

  // 511 calls: the load, and the others over and over. No pair of changes is cut in two at the end: 510 is even, and
  // of the 44 calls of all kinds, 26 are left over, which are the pairs and the refusals.
  private static CubeMinimiser used(String before, List<Call> others) {
    CubeMinimiser x = new CubeMinimiser();
    make(x, 1, before, LOAD);
    for (int number = 2; number < CALLS; number++) make(x, number, before, others.get((number - 2) % others.size()));
    return x;
  }

  private static void lastAfter(String before, List<Call> others) {
    List<Call> last = new ArrayList<>(changes());
    last.addAll(refusals());
    last.addAll(questions());
    for (Call c : last) make(used(before, others), CALLS, before, c);
  }

  // 512 calls of one method alone, on a new object; the answers in turn, over and over.
  private static void alone(String name, ToIntFunction<CubeMinimiser> method, int... want) {
    CubeMinimiser x = new CubeMinimiser();
    for (int number = 1; number <= CALLS; number++) {
      make(x, number, "its like", call(name, want[(number - 1) % want.length], method));
    }
  }

  private static void changesAlone() {
    alone("set(15, 0)", x -> x.set(15, 0), 0);
    alone("fill(80, 0)", x -> x.fill(80, 0), 0);
    alone("load(65535, 0)", x -> x.load(65535, 0), 16);
    alone("invert()", CubeMinimiser::invert, 16, 0);
    CubeMinimiser x = new CubeMinimiser();
    CubeMinimiser y = new CubeMinimiser();
    for (int number = 1; number <= CALLS; number++) {
      int how = number % 3;
      make(x, number, "its like", call("set(15, " + how + ")", (number - 1) % 3, z -> z.set(15, how)));
      make(y, number, "its like", call("fill(80, " + how + ")", 16, z -> z.fill(80, how)));
    }
  }

  private static void questionsAlone() {
    alone("row(15)", x -> x.row(15), 0);
    alone("size(80)", x -> x.size(80), 16);
    alone("allowed(80)", x -> x.allowed(80), 0);
    alone("primes()", CubeMinimiser::primes, 0);
    alone("prime(0)", x -> x.prime(0), -1);
    alone("primesWith(15)", x -> x.primesWith(15), 0);
    alone("needed()", CubeMinimiser::needed, 0);
    alone("best()", CubeMinimiser::best, 0);
    alone("bestLength()", CubeMinimiser::bestLength, 0);
    alone("bestCover()", CubeMinimiser::bestCover, 0);
    alone("covers(0)", x -> x.covers(0), 1);
    alone("shortest()", CubeMinimiser::shortest, 1);
    alone("bestWith(0)", x -> x.bestWith(0), -1);
    alone("free(3)", x -> x.free(3), 1);
  }

  // A change made by the 511th call is seen by the 512th. All rows are off before it.
  private static void seenByTheLast(String change, ToIntFunction<CubeMinimiser> method, Call... last) {
    for (Call c : last) {
      CubeMinimiser x = new CubeMinimiser();
      for (int number = 1; number < CALLS - 1; number++) x.invert();
      method.applyAsInt(x);
      make(x, CALLS, "510 of invert() and " + change, c);
    }
  }

  private static void lastChanges() {
    seenByTheLast("set(15, 1)", x -> x.set(15, 1), call("row(15)", 1, x -> x.row(15)),
        call("prime(0)", 40, x -> x.prime(0)), call("bestLength()", 4, CubeMinimiser::bestLength));
    seenByTheLast("fill(53, 1)", x -> x.fill(53, 1), call("row(8)", 1, x -> x.row(8)),
        call("prime(0)", 53, x -> x.prime(0)), call("bestLength()", 1, CubeMinimiser::bestLength));
    seenByTheLast("load(126, 0)", x -> x.load(126, 0), call("row(6)", 1, x -> x.row(6)),
        call("primes()", 6, CubeMinimiser::primes), call("bestCover()", 25, CubeMinimiser::bestCover));
    seenByTheLast("invert()", CubeMinimiser::invert, call("row(0)", 1, x -> x.row(0)),
        call("prime(0)", 80, x -> x.prime(0)), call("needed()", 1, CubeMinimiser::needed));
    seenByTheLast("set(0, 3), refused", x -> x.set(0, 3), call("row(0)", 0, x -> x.row(0)),
        call("primes()", 0, CubeMinimiser::primes), call("invert()", 16, CubeMinimiser::invert));
  }

  public static void main(String[] args) {
    lastAfter("refused calls", refusals());
    lastAfter("questions", questions());
    for (List<Call> pair : pairsOfChanges()) lastAfter(pair.get(0).name() + " and " + pair.get(1).name(), pair);
    lastAfter("calls of all kinds", allKinds());
    lastChanges();
    changesAlone();
    questionsAlone();
    System.out.println(wrong == 0 ? "all answers are as due" : wrong + " answers are not as due");
    if (wrong != 0) System.exit(1);
  }
}
