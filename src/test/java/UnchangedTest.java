import java.util.ArrayList;
import java.util.LinkedHashMap;
import java.util.List;
import java.util.Map;
import java.util.function.Consumer;
import java.util.function.Supplier;
import java.util.function.ToIntFunction;

// "No question changes anything. A refused call changes nothing." An object is given a refused call or a question;
// all that any later call shows, at once and after each kind of change, must be what new objects show that were
// changed in the same way but never given a refused call or another question. Nor does a call on one object change
// another.
public final class UnchangedTest {
  private static final int MIN = Integer.MIN_VALUE;
  private static final int MAX = Integer.MAX_VALUE;
  private static final int[][] STATES = {{0, 0}, {65535, 0}, {0, 65535}, {126, 0}, {6, 120}, {0, 126}, {3901, 64},
      {27030, 0}, {27581, 0}, {32768, 1}, {21845, 43690}};
  private static final int[] BAD_ROWS = {-1, 16, 17, 32, MIN, MAX};
  private static final int[] BAD_CUBES = {-1, 81, 82, MIN, MAX};
  private static final int[] BAD_HOWS = {-1, 3, 4, MIN, MAX};
  private static final int[] BAD_SETS_OF_ROWS = {-1, 65536, 65537, MIN, MAX};
  private static final Map<String, ToIntFunction<CubeMinimiser>> refused = new LinkedHashMap<>();
  private static final Map<String, ToIntFunction<CubeMinimiser>> questions = new LinkedHashMap<>();
  private static final Map<String, Consumer<CubeMinimiser>> later = new LinkedHashMap<>();
  private static int wrong = 0;

  private static void wrongIf(boolean isWrong, String what) {
    if (isWrong) {
      wrong++;
      if (wrong <= 50) System.out.println(what);
    }
  }

  private static void refusedChanges() {
    for (int row : BAD_ROWS) {
      for (int how = -1; how <= 3; how++) {
        int h = how;
        refused.put("set(" + row + ", " + how + ")", x -> x.set(row, h));
      }
    }
    for (int cube : BAD_CUBES) {
      for (int how = -1; how <= 3; how++) {
        int h = how;
        refused.put("fill(" + cube + ", " + how + ")", x -> x.fill(cube, h));
      }
    }
    for (int how : BAD_HOWS) {
      for (int row : new int[] {0, 1, 6, 15}) refused.put("set(" + row + ", " + how + ")", x -> x.set(row, how));
      for (int cube : new int[] {0, 5, 53, 80}) refused.put("fill(" + cube + ", " + how + ")", x -> x.fill(cube, how));
    }
    for (int bad : BAD_SETS_OF_ROWS) {
      for (int good : new int[] {0, 90, 65535}) {
        refused.put("load(" + bad + ", " + good + ")", x -> x.load(bad, good));
        refused.put("load(" + good + ", " + bad + ")", x -> x.load(good, bad));
      }
      refused.put("load(" + bad + ", " + bad + ")", x -> x.load(bad, bad));
    }
  }

  private static void refusedQuestions() {
    for (int row : BAD_ROWS) {
      refused.put("row(" + row + ")", x -> x.row(row));
      refused.put("primesWith(" + row + ")", x -> x.primesWith(row));
    }
    for (int cube : BAD_CUBES) {
      refused.put("size(" + cube + ")", x -> x.size(cube));
      refused.put("allowed(" + cube + ")", x -> x.allowed(cube));
    }
    for (int i : new int[] {-1, 13, 14, 32, MIN, MAX}) {
      refused.put("prime(" + i + ")", x -> x.prime(i));
      refused.put("bestWith(" + i + ")", x -> x.bestWith(i));
    }
    for (int set : new int[] {-1, 8192, 8193, MIN, MAX}) refused.put("covers(" + set + ")", x -> x.covers(set));
    for (int k : new int[] {-1, 4, 32, MIN, MAX}) refused.put("free(" + k + ")", x -> x.free(k));
  }

  // Some of these are refused in some states; then, too, they must change nothing.
  private static void askedQuestions() {
    for (int row : new int[] {0, 1, 6, 15}) {
      questions.put("row(" + row + ")", x -> x.row(row));
      questions.put("primesWith(" + row + ")", x -> x.primesWith(row));
    }
    for (int cube : new int[] {0, 5, 53, 80}) {
      questions.put("size(" + cube + ")", x -> x.size(cube));
      questions.put("allowed(" + cube + ")", x -> x.allowed(cube));
    }
    for (int i : new int[] {0, 1, 5, 12}) {
      questions.put("prime(" + i + ")", x -> x.prime(i));
      questions.put("bestWith(" + i + ")", x -> x.bestWith(i));
    }
    for (int set : new int[] {0, 1, 25, 63, 8191}) questions.put("covers(" + set + ")", x -> x.covers(set));
    for (int k = 0; k < 4; k++) {
      int bit = k;
      questions.put("free(" + k + ")", x -> x.free(bit));
    }
    questions.put("primes()", CubeMinimiser::primes);
    questions.put("needed()", CubeMinimiser::needed);
    questions.put("best()", CubeMinimiser::best);
    questions.put("bestLength()", CubeMinimiser::bestLength);
    questions.put("bestCover()", CubeMinimiser::bestCover);
    questions.put("shortest()", CubeMinimiser::shortest);
  }

  private static void laterChanges() {
    later.put("nothing", x -> { });
    later.put("set(6, 2)", x -> x.set(6, 2));
    later.put("fill(53, 1)", x -> x.fill(53, 1));
    later.put("fill(5, 0)", x -> x.fill(5, 0));
    later.put("load(90, 5)", x -> x.load(90, 5));
    later.put("invert()", CubeMinimiser::invert);
  }

  // All that can be asked, in 306 calls at most; for covers, at most 60 sets stand for all.
  private static List<Integer> everything(Supplier<CubeMinimiser> object) {
    List<Integer> seen = new ArrayList<>();
    for (int row = 0; row < 16; row++) {
      seen.add(object.get().row(row));
      seen.add(object.get().primesWith(row));
    }
    for (int cube = 0; cube < 81; cube++) {
      seen.add(object.get().size(cube));
      seen.add(object.get().allowed(cube));
    }
    int primes = object.get().primes();
    seen.add(primes);
    seen.add(object.get().needed());
    seen.add(object.get().best());
    seen.add(object.get().bestLength());
    seen.add(object.get().bestCover());
    seen.add(object.get().shortest());
    for (int i = 0; i < primes; i++) {
      seen.add(object.get().prime(i));
      seen.add(object.get().bestWith(i));
    }
    for (int k = 0; k < 4; k++) seen.add(object.get().free(k));
    int sets = 1 << primes;
    for (int set = 0; set < sets; set += sets / 60 + 1) seen.add(object.get().covers(set));
    for (int row = 0; row < 16; row++) seen.add(object.get().row(row));
    return seen;
  }

  private static CubeMinimiser inState(int[] state) {
    CubeMinimiser x = new CubeMinimiser();
    x.load(state[0], state[1]);
    return x;
  }

  private static CubeMinimiser changed(CubeMinimiser x, String how) {
    later.get(how).accept(x);
    return x;
  }

  private static void changesNothing(int[] state, Map<String, ToIntFunction<CubeMinimiser>> calls, boolean areRefused) {
    for (String then : later.keySet()) {
      // An object for each question: a question that changes something would otherwise do so in both.
      List<Integer> want = everything(() -> changed(inState(state), then));
      for (String call : calls.keySet()) {
        String what = "load(" + state[0] + ", " + state[1] + "), " + call;
        CubeMinimiser x = inState(state);
        int first = calls.get(call).applyAsInt(x);
        int second = calls.get(call).applyAsInt(x);
        wrongIf(areRefused && first >= 0, what + " answered " + first + ", but had to be refused");
        wrongIf(first != second, what + " answered " + first + ", and when asked again " + second);
        changed(x, then);
        wrongIf(!everything(() -> x).equals(want), what + ", then " + then + ": the call changed what is answered later");
      }
    }
  }

  // Two objects used in turn: what one is told changes nothing of the other.
  private static void twoObjects(int[] state, int[] otherState) {
    List<Integer> want = everything(() -> inState(state));
    for (String then : later.keySet()) {
      String what = "load(" + state[0] + ", " + state[1] + "), and on another object load(" + otherState[0] + ", "
          + otherState[1] + "), " + then;
      CubeMinimiser before = inState(otherState);
      CubeMinimiser x = inState(state);
      CubeMinimiser after = inState(otherState);
      changed(before, then);
      changed(after, then);
      List<Integer> wantOther = everything(() -> changed(inState(otherState), then));
      wrongIf(!everything(() -> x).equals(want), what + ": the first object was changed");
      wrongIf(!everything(() -> before).equals(wantOther), what + ": the other, made before, is not as due");
      wrongIf(!everything(() -> after).equals(wantOther), what + ": the other, made after, is not as due");
    }
  }

  public static void main(String[] args) {
    refusedChanges();
    refusedQuestions();
    askedQuestions();
    laterChanges();
    for (int[] state : STATES) {
      changesNothing(state, refused, true);
      changesNothing(state, questions, false);
      for (int[] otherState : STATES) twoObjects(state, otherState);
    }
    System.out.println(wrong == 0 ? "nothing was changed" : wrong + " answers are not as due");
    if (wrong != 0) System.exit(1);
  }
}
