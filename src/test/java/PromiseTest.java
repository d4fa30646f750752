// The promises one by one, with answers worked out by hand from the document. How those for the 13 primes of
// load(27581, 0) come about is said in EdgeTest.
public final class PromiseTest {
  private static final int MIN = Integer.MIN_VALUE;
  private static final int MAX = Integer.MAX_VALUE;
  private static int wrong = 0;

  private static void due(String call, int got, int want) {
    if (got != want) {
      wrong++;
      System.out.println(call + " answered " + got + ", due is " + want);
    }
  }

  private static CubeMinimiser loaded(int ons, int opens) {
    CubeMinimiser x = new CubeMinimiser();
    x.load(ons, opens);
    return x;
  }

  // The rows are written 0 (off), 1 (on) or 2 (open), row 0 first.
  private static void dueRows(String when, CubeMinimiser x, String want) {
    StringBuilder got = new StringBuilder();
    for (int r = 0; r < 16; r++) got.append(x.row(r));
    if (!got.toString().equals(want)) {
      wrong++;
      System.out.println(when + ": rows are " + got + ", due is " + want);
    }
  }

  private static void newObject() {
    CubeMinimiser x = new CubeMinimiser();
    dueRows("1 new", x, "0000000000000000");
    due("1 primes", x.primes(), 0);
    due("1 best", x.best(), 0);
    due("1 covers(0)", x.covers(0), 1);
    CubeMinimiser y = new CubeMinimiser();
    x.load(65535, 0);
    dueRows("1 another object", y, "0000000000000000");
    dueRows("1 new after a load elsewhere", new CubeMinimiser(), "0000000000000000");
  }

  private static void set() {
    CubeMinimiser x = new CubeMinimiser();
    due("2 set(0, 1)", x.set(0, 1), 0);
    due("2 set(0, 2)", x.set(0, 2), 1);
    due("2 set(0, 2) again", x.set(0, 2), 2);
    due("2 set(0, 1) again", x.set(0, 1), 2);
    due("2 set(15, 2)", x.set(15, 2), 0);
    due("2 set(7, 1)", x.set(7, 1), 0);
    dueRows("2 after three rows", x, "1000000100000002");
    due("2 set(7, 0)", x.set(7, 0), 1);
    due("2 set(15, 0)", x.set(15, 0), 2);
    dueRows("2 after two off", x, "1000000000000000");
    for (int row : new int[] {-1, 16, 32, MIN, MAX}) {
      due("2 set(" + row + ", 1)", x.set(row, 1), -1);
      due("2 set(" + row + ", 3): the row is looked at first", x.set(row, 3), -1);
    }
    for (int how : new int[] {-1, 3, MIN, MAX}) due("2 set(0, " + how + ")", x.set(0, how), -2);
    dueRows("2 after refusals", x, "1000000000000000");
  }

  private static void fill() {
    CubeMinimiser x = new CubeMinimiser();
    // 53 asks b0 = 1 and nothing else; 18 asks b0 = 0, b2 = 0, b3 = 0; 5 is 0012.
    due("3 fill(53, 1)", x.fill(53, 1), 8);
    dueRows("3 after fill(53, 1)", x, "0000000011111111");
    due("3 fill(53, 1) again", x.fill(53, 1), 0);
    due("3 fill(18, 2)", x.fill(18, 2), 2);
    dueRows("3 after fill(18, 2)", x, "2000200011111111");
    due("3 fill(5, 1)", x.fill(5, 1), 2);
    due("3 fill(80, 2)", x.fill(80, 2), 14);
    dueRows("3 after fill(80, 2)", x, "2222222222222222");
    due("3 fill(0, 0)", x.fill(0, 0), 1);
    due("3 fill(40, 1)", x.fill(40, 1), 1);
    dueRows("3 after single rows", x, "0222222222222221");
    due("3 fill(80, 0)", x.fill(80, 0), 15);
    x.load(5, 10);
    for (int cube : new int[] {-1, 81, MIN, MAX}) {
      due("3 fill(" + cube + ", 1)", x.fill(cube, 1), -1);
      due("3 fill(" + cube + ", -1): the cube is looked at first", x.fill(cube, -1), -1);
    }
    for (int how : new int[] {-1, 3, MIN, MAX}) due("3 fill(80, " + how + ")", x.fill(80, how), -2);
    dueRows("3 after refusals", x, "1212000000000000");
  }

  private static void load() {
    CubeMinimiser x = new CubeMinimiser();
    due("4 load(5, 0)", x.load(5, 0), 2);
    dueRows("4 after load(5, 0)", x, "1010000000000000");
    due("4 load(32769, 3)", x.load(32769, 3), 2);
    dueRows("4 on goes before open", x, "1200000000000001");
    due("4 load(0, 65535)", x.load(0, 65535), 0);
    dueRows("4 all open", x, "2222222222222222");
    due("4 load(65535, 65535)", x.load(65535, 65535), 16);
    dueRows("4 all on", x, "1111111111111111");
    due("4 load(6, 48)", x.load(6, 48), 2);
    for (int bad : new int[] {-1, 65536, MIN, MAX}) {
      due("4 load(" + bad + ", 0)", x.load(bad, 0), -1);
      due("4 load(0, " + bad + ")", x.load(0, bad), -2);
      due("4 load(" + bad + ", " + bad + "): ons is looked at first", x.load(bad, bad), -1);
    }
    dueRows("4 after refusals", x, "0110220000000000");
    due("4 load(0, 0)", x.load(0, 0), 0);
    dueRows("4 all off", x, "0000000000000000");
  }

  private static void invert() {
    CubeMinimiser x = new CubeMinimiser();
    due("5 invert", x.invert(), 16);
    dueRows("5 all on", x, "1111111111111111");
    due("5 primes of all on", x.primes(), 1);
    due("5 invert again", x.invert(), 0);
    due("5 primes of all off", x.primes(), 0);
    x.load(5, 10);
    due("5 invert with open rows", x.invert(), 12);
    dueRows("5 open rows stay", x, "0202111111111111");
    due("5 invert back", x.invert(), 2);
    dueRows("5 back", x, "1212000000000000");
    x.load(0, 65535);
    due("5 invert all open", x.invert(), 0);
    dueRows("5 all open", x, "2222222222222222");
  }

  private static void row() {
    CubeMinimiser x = loaded(32769, 16386);
    due("6 row(0)", x.row(0), 1);
    due("6 row(1)", x.row(1), 2);
    due("6 row(2)", x.row(2), 0);
    due("6 row(14)", x.row(14), 2);
    due("6 row(15)", x.row(15), 1);
    for (int row : new int[] {-1, 16, 32, MIN, MAX}) due("6 row(" + row + ")", x.row(row), -1);
  }

  private static void size() {
    CubeMinimiser x = new CubeMinimiser();
    due("7 size(80)", x.size(80), 16);
    due("7 size(79)", x.size(79), 8);
    due("7 size(53)", x.size(53), 8);
    due("7 size(72)", x.size(72), 4);
    due("7 size(2)", x.size(2), 2);
    due("7 size(54)", x.size(54), 2);
    due("7 size(0)", x.size(0), 1);
    due("7 size(40)", x.size(40), 1);
    x.load(65535, 0);
    due("7 size(40) with rows on", x.size(40), 1);
    for (int cube : new int[] {-1, 81, MIN, MAX}) due("7 size(" + cube + ")", x.size(cube), -1);
  }

  private static void allowed() {
    // Rows 8 and 9 on, 10 and 11 open: 35 is 1022 and has just these.
    CubeMinimiser x = loaded(768, 3072);
    due("8 allowed(35)", x.allowed(35), 1);
    due("8 allowed(29)", x.allowed(29), 1);
    due("8 allowed(32), open rows alone", x.allowed(32), 1);
    due("8 allowed(27)", x.allowed(27), 1);
    due("8 allowed(44)", x.allowed(44), 0);
    due("8 allowed(53)", x.allowed(53), 0);
    due("8 allowed(80)", x.allowed(80), 0);
    due("8 allowed(0)", x.allowed(0), 0);
    x.set(11, 0);
    due("8 allowed(35) without row 11", x.allowed(35), 0);
    for (int cube : new int[] {-1, 81, MIN, MAX}) due("8 allowed(" + cube + ")", x.allowed(cube), -1);
  }

  private static void primes() {
    due("9 none", loaded(0, 0).primes(), 0);
    due("9 all on", loaded(65535, 0).primes(), 1);
    due("9 all open", loaded(0, 65535).primes(), 1);
    due("9 one open row", loaded(0, 1).primes(), 1);
    due("9 a ring of six", loaded(126, 0).primes(), 6);
    due("9 a ring of six, partly open", loaded(6, 120).primes(), 6);
    due("9 odd rows", loaded(27030, 0).primes(), 8);
    due("9 the most", loaded(27581, 0).primes(), 13);
    CubeMinimiser x = loaded(126, 0);
    x.set(7, 2);
    due("9 after set", x.primes(), 3);
    x.fill(26, 1);
    due("9 after fill", x.primes(), 1);
    x.set(16, 1);
    due("9 after a refusal", x.primes(), 1);
  }

  private static void duePrimes(String when, CubeMinimiser x, int... want) {
    due(when + " primes", x.primes(), want.length);
    for (int i = 0; i < want.length; i++) due(when + " prime(" + i + ")", x.prime(i), want[i]);
    for (int i : new int[] {-1, want.length, 13, 80, MIN, MAX}) due(when + " prime(" + i + ")", x.prime(i), -1);
  }

  private static void prime() {
    duePrimes("10 none", loaded(0, 0));
    duePrimes("10 all", loaded(65535, 0), 80);
    duePrimes("10 row 15", loaded(32768, 0), 40);
    duePrimes("10 b3 = 1, open", loaded(0, 43690), 79);
    duePrimes("10 a ring of six", loaded(126, 0), 5, 7, 11, 15, 19, 21);
    duePrimes("10 with lengths 2 and 3", loaded(3901, 0), 11, 18, 35, 59, 60);
    duePrimes("10 the most", loaded(27581, 0), 5, 6, 11, 16, 18, 22, 29, 34, 39, 46, 54, 58, 64);
  }

  private static void primesWith() {
    // The ring's primes have the rows 2 3, 1 3, 4 5, 4 6, 1 5, 2 6.
    CubeMinimiser x = loaded(126, 0);
    due("11 primesWith(0)", x.primesWith(0), 0);
    due("11 primesWith(1)", x.primesWith(1), 18);
    due("11 primesWith(2)", x.primesWith(2), 33);
    due("11 primesWith(3)", x.primesWith(3), 3);
    due("11 primesWith(4)", x.primesWith(4), 12);
    due("11 primesWith(5)", x.primesWith(5), 20);
    due("11 primesWith(6)", x.primesWith(6), 40);
    due("11 primesWith(15)", x.primesWith(15), 0);
    x.set(1, 2);
    due("11 primesWith(1), open", x.primesWith(1), 18);
    for (int row : new int[] {-1, 16, 32, MIN, MAX}) due("11 primesWith(" + row + ")", x.primesWith(row), -1);
  }

  private static void needed() {
    due("12 none", loaded(0, 0).needed(), 0);
    due("12 all on", loaded(65535, 0).needed(), 1);
    due("12 all open", loaded(0, 65535).needed(), 0);
    due("12 a ring", loaded(126, 0).needed(), 0);
    // Row 5 needs prime 0, row 9 prime 2, row 3 prime 3; row 0 has the choice.
    due("12 three of five", loaded(3901, 0).needed(), 13);
    // With row 5 open, prime 0 is no longer needed.
    due("12 an open row needs nothing", loaded(3869, 32).needed(), 12);
    due("12 odd rows", loaded(27030, 0).needed(), 255);
  }

  private static void dueBest(String when, CubeMinimiser x, int members, int length, int cover, int shortest) {
    due("13 best, " + when, x.best(), members);
    due("14 bestLength, " + when, x.bestLength(), length);
    due("15 bestCover, " + when, x.bestCover(), cover);
    due("17 shortest, " + when, x.shortest(), shortest);
  }

  private static void bestAndShortest() {
    dueBest("none", loaded(0, 0), 0, 0, 0, 1);
    dueBest("all open", loaded(0, 65535), 0, 0, 0, 1);
    dueBest("all on", loaded(65535, 0), 1, 0, 1, 1);
    dueBest("b3 = 1", loaded(43690, 0), 1, 1, 1, 1);
    dueBest("odd rows", loaded(27030, 0), 8, 32, 255, 1);
    // 25 and 38 have the same members and lengths: the lesser number is better.
    dueBest("a ring", loaded(126, 0), 3, 9, 25, 2);
    dueBest("a ring with row 1 open", loaded(124, 2), 3, 9, 13, 4);
    // 15 is the lesser number, but 29 has the lesser sum of lengths.
    dueBest("lengths go before numbers", loaded(3901, 0), 4, 9, 29, 2);
    dueBest("the most primes", loaded(27581, 0), 7, 22, 985, 32);
  }

  private static void covers() {
    CubeMinimiser x = loaded(126, 0);
    due("16 covers(0)", x.covers(0), 0);
    due("16 covers(25)", x.covers(25), 1);
    due("16 covers(38)", x.covers(38), 1);
    due("16 covers(13)", x.covers(13), 0);
    due("16 covers(63)", x.covers(63), 1);
    for (int set : new int[] {-1, 64, 65, 8191, MIN, MAX}) due("16 covers(" + set + ")", x.covers(set), -1);
    x.set(1, 2);
    due("16 covers(13), row 1 open", x.covers(13), 1);
    CubeMinimiser most = loaded(27581, 0);
    due("16 covers(8191), 13 primes", most.covers(8191), 1);
    due("16 covers(985), 13 primes", most.covers(985), 1);
    due("16 covers(8192), 13 primes", most.covers(8192), -1);
    due("16 covers(0), all open", loaded(0, 65535).covers(0), 1);
    due("16 covers(1), no prime", loaded(0, 0).covers(1), -1);
  }

  private static void bestWith() {
    CubeMinimiser x = loaded(3901, 0);
    due("18 bestWith(0)", x.bestWith(0), 4);
    due("18 bestWith(1)", x.bestWith(1), 4);
    due("18 bestWith(4)", x.bestWith(4), 4);
    for (int i : new int[] {-1, 5, 31, 32, MIN, MAX}) due("18 bestWith(" + i + ")", x.bestWith(i), -1);
    // Row 15 is on and row 0 open: the prime of row 0 only adds a member.
    CubeMinimiser apart = loaded(32768, 1);
    due("18 bestWith(0), of no use", apart.bestWith(0), 2);
    due("18 bestWith(1), of use", apart.bestWith(1), 1);
    due("18 bestWith(0), all open", loaded(0, 65535).bestWith(0), 1);
    due("18 bestWith(0), no prime", loaded(0, 0).bestWith(0), -1);
  }

  private static void dueFree(String when, CubeMinimiser x, int... want) {
    for (int k = 0; k < 4; k++) due("19 free(" + k + "), " + when, x.free(k), want[k]);
  }

  private static void free() {
    CubeMinimiser x = new CubeMinimiser();
    dueFree("all off", x, 1, 1, 1, 1);
    x.fill(53, 1);
    dueFree("b0 decides", x, 0, 1, 1, 1);
    x.load(0xF0F0, 0);
    dueFree("b1 decides", x, 1, 0, 1, 1);
    x.load(0x3333, 0);
    dueFree("b2 = 0 decides", x, 1, 1, 0, 1);
    x.load(0xAAAA, 0);
    dueFree("b3 decides", x, 1, 1, 1, 0);
    x.load(1, 0);
    dueFree("row 0 alone", x, 0, 0, 0, 0);
    x.load(32768, 0);
    dueFree("row 15 alone", x, 0, 0, 0, 0);
    x.set(7, 2);
    dueFree("row 7 open beside row 15", x, 1, 0, 0, 0);
    x.load(0, 21845);
    dueFree("open and off", x, 1, 1, 1, 1);
    x.load(65535 - 21845, 21845);
    dueFree("open and on", x, 1, 1, 1, 1);
    for (int k : new int[] {-1, 4, 32, MIN, MAX}) due("19 free(" + k + ")", x.free(k), -1);
  }

  public static void main(String[] args) {
    newObject();
    set();
    fill();
    load();
    invert();
    row();
    size();
    allowed();
    primes();
    prime();
    primesWith();
    needed();
    bestAndShortest();
    covers();
    bestWith();
    free();
    System.out.println(wrong == 0 ? "all answers are as due" : wrong + " answers are not as due");
    if (wrong != 0) System.exit(1);
  }
}
