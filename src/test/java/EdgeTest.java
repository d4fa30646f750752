// The sentences of the document at their edges: no primes, no rows on, all rows on, all rows open, the most primes,
// the least and the largest cubes, and covers between which each next rule of 'better' decides. All answers are
// worked out by hand from the document.
public final class EdgeTest {
  private static final int MOST_PRIMES = 27581;
  private static int wrong = 0;

  private static void due(String call, int got, int want) {
    if (got != want) {
      wrong++;
      System.out.println(call + " answered " + got + ", due is " + want);
    }
  }

  private static CubeMinimiser loaded(int ons, int opens) {
    CubeMinimiser x = new CubeMinimiser();
    x.load(ons, opens);
    return x;
  }

  private static void dueRows(String when, CubeMinimiser x, int ons, int opens) {
    for (int r = 0; r < 16; r++) {
      int want = (ons >> r & 1) == 1 ? 1 : (opens >> r & 1) == 1 ? 2 : 0;
      due(when + ": row(" + r + ")", x.row(r), want);
    }
  }

  // The four digits of a cube, for b0, b1, b2, b3.
  private static int[] digits(int cube) {
    return new int[] {cube / 27, cube / 9 % 3, cube / 3 % 3, cube % 3};
  }

  private static int rowsOf(int cube) {
    int[] d = digits(cube);
    int rows = 0;
    for (int b0 = 0; b0 < 2; b0++) {
      for (int b1 = 0; b1 < 2; b1++) {
        for (int b2 = 0; b2 < 2; b2++) {
          for (int b3 = 0; b3 < 2; b3++) {
            boolean has = d[0] != 1 - b0 && d[1] != 1 - b1 && d[2] != 1 - b2 && d[3] != 1 - b3;
            if (has) rows |= 1 << (8 * b0 + 4 * b1 + 2 * b2 + b3);
          }
        }
      }
    }
    return rows;
  }

  private static int lengthOf(int cube) {
    int length = 0;
    for (int digit : digits(cube)) if (digit != 2) length++;
    return length;
  }

  private static void dueBest(String when, CubeMinimiser x, int members, int length, int cover, int shortest) {
    due(when + ": best()", x.best(), members);
    due(when + ": bestLength()", x.bestLength(), length);
    due(when + ": bestCover()", x.bestCover(), cover);
    due(when + ": shortest()", x.shortest(), shortest);
  }

  private static void dueAllFree(String when, CubeMinimiser x) {
    for (int k = 0; k < 4; k++) due(when + ": free(" + k + ")", x.free(k), 1);
  }

  private static void dueAllAllowed(String when, CubeMinimiser x, int want) {
    for (int cube = 0; cube < 81; cube++) due(when + ": allowed(" + cube + ")", x.allowed(cube), want);
  }

  private static void dueAllOff(String when, CubeMinimiser x) {
    dueRows(when, x, 0, 0);
    dueAllAllowed(when, x, 0);
    due(when + ": primes()", x.primes(), 0);
    due(when + ": prime(0)", x.prime(0), -1);
    for (int r = 0; r < 16; r++) due(when + ": primesWith(" + r + ")", x.primesWith(r), 0);
    due(when + ": needed()", x.needed(), 0);
    dueBest(when, x, 0, 0, 0, 1);
    due(when + ": covers(0)", x.covers(0), 1);
    due(when + ": covers(1)", x.covers(1), -1);
    due(when + ": bestWith(0)", x.bestWith(0), -1);
    dueAllFree(when, x);
  }

  // "All rows are off."
  private static void allOff() {
    dueAllOff("new", new CubeMinimiser());
    CubeMinimiser x = loaded(MOST_PRIMES, 65535);
    x.load(0, 0);
    dueAllOff("load(0, 0)", x);
    x = loaded(MOST_PRIMES, 65535);
    x.fill(80, 0);
    dueAllOff("fill(80, 0)", x);
    x = loaded(65535, 0);
    x.invert();
    dueAllOff("all on, then invert()", x);
    x = loaded(MOST_PRIMES, 65535);
    for (int r = 0; r < 16; r++) x.set(r, 0);
    dueAllOff("each row set off", x);
  }

  private static void dueAllOn(String when, CubeMinimiser x) {
    dueRows(when, x, 65535, 0);
    dueAllAllowed(when, x, 1);
    due(when + ": primes()", x.primes(), 1);
    due(when + ": prime(0)", x.prime(0), 80);
    due(when + ": prime(1)", x.prime(1), -1);
    for (int r = 0; r < 16; r++) due(when + ": primesWith(" + r + ")", x.primesWith(r), 1);
    due(when + ": needed()", x.needed(), 1);
    dueBest(when, x, 1, 0, 1, 1);
    due(when + ": covers(0)", x.covers(0), 0);
    due(when + ": covers(1)", x.covers(1), 1);
    due(when + ": covers(2)", x.covers(2), -1);
    due(when + ": bestWith(0)", x.bestWith(0), 1);
    dueAllFree(when, x);
  }

  private static void allOn() {
    dueAllOn("load(65535, 0)", loaded(65535, 0));
    dueAllOn("load(65535, 65535)", loaded(65535, 65535));
    CubeMinimiser x = new CubeMinimiser();
    due("fill(80, 1), all off", x.fill(80, 1), 16);
    dueAllOn("fill(80, 1)", x);
    x = new CubeMinimiser();
    due("invert(), all off", x.invert(), 16);
    dueAllOn("new, then invert()", x);
    x = new CubeMinimiser();
    for (int r = 0; r < 16; r++) x.set(r, 1);
    dueAllOn("each row set on", x);
  }

  private static void dueAllOpen(String when, CubeMinimiser x) {
    dueRows(when, x, 0, 65535);
    dueAllAllowed(when, x, 1);
    due(when + ": primes()", x.primes(), 1);
    due(when + ": prime(0)", x.prime(0), 80);
    due(when + ": prime(1)", x.prime(1), -1);
    for (int r = 0; r < 16; r++) due(when + ": primesWith(" + r + ")", x.primesWith(r), 1);
    due(when + ": needed()", x.needed(), 0);
    dueBest(when, x, 0, 0, 0, 1);
    due(when + ": covers(0)", x.covers(0), 1);
    due(when + ": covers(1)", x.covers(1), 1);
    due(when + ": covers(2)", x.covers(2), -1);
    due(when + ": bestWith(0)", x.bestWith(0), 1);
    dueAllFree(when, x);
  }

  private static void allOpen() {
    CubeMinimiser x = loaded(0, 65535);
    dueAllOpen("load(0, 65535)", x);
    due("invert(), all open", x.invert(), 0);
    dueAllOpen("all open, then invert()", x);
    x = loaded(65535, 0);
    due("fill(80, 2), all on", x.fill(80, 2), 16);
    dueAllOpen("fill(80, 2)", x);
    x = new CubeMinimiser();
    for (int r = 0; r < 16; r++) x.set(r, 2);
    dueAllOpen("each row set open", x);
  }

  // No row on, but six primes: the empty set is the best cover, every set is a cover, and no prime is needed.
  private static void noRowOn() {
    CubeMinimiser x = loaded(0, 126);
    due("none on: primes()", x.primes(), 6);
    due("none on: needed()", x.needed(), 0);
    dueBest("none on", x, 0, 0, 0, 1);
    for (int set = 0; set < 64; set++) due("none on: covers(" + set + ")", x.covers(set), 1);
    due("none on: covers(64)", x.covers(64), -1);
    for (int i = 0; i < 6; i++) due("none on: bestWith(" + i + ")", x.bestWith(i), 1);
    due("none on: bestWith(6)", x.bestWith(6), -1);
    dueAllFree("none on", x);
    due("none on: invert()", x.invert(), 10);
    dueRows("none on, then invert()", x, 65535 - 126, 126);
  }

  // Row 14 is alone. The rows 0, 3, 5 and 9 are ends; each two ends have one middle row that is a neighbour of both:
  // 2, 4, 8, 7, 11, 13. A prime is row 14, or a middle row with one of its two ends.
  private static final int[] MOST = {5, 6, 11, 16, 18, 22, 29, 34, 39, 46, 54, 58, 64};

  // "there are at most 13."
  private static void mostPrimes() {
    CubeMinimiser x = loaded(MOST_PRIMES, 0);
    due("13 primes: primes()", x.primes(), 13);
    for (int i = 0; i < 13; i++) due("13 primes: prime(" + i + ")", x.prime(i), MOST[i]);
    due("13 primes: prime(13)", x.prime(13), -1);
    // The two primes of the middle rows: 2 has 0 and 1; 4 has 2 and 4; 7 has 3 and 5; 8 has 6 and 10; 11 has 7
    // and 11; 13 has 9 and 12. The three of the ends: 0 has 1, 4 and 10; 3 has 0, 5 and 11; 5 has 2, 3 and 12;
    // 9 has 6, 7 and 9. Row 14 has prime 8 alone.
    int[] with = {1042, 0, 3, 2081, 20, 4108, 0, 40, 1088, 704, 0, 2176, 0, 4608, 256, 0};
    for (int r = 0; r < 16; r++) due("13 primes: primesWith(" + r + ")", x.primesWith(r), with[r]);
    due("13 primes: needed()", x.needed(), 256);
    due("13 primes: covers(0)", x.covers(0), 0);
    due("13 primes: covers(8191)", x.covers(8191), 1);
    due("13 primes: covers(8191 - 256)", x.covers(8191 - 256), 0);
    due("13 primes: covers(8191 - 3)", x.covers(8191 - 3), 0);
    due("13 primes: covers(8191 - 1)", x.covers(8191 - 1), 1);
    due("13 primes: covers(8192)", x.covers(8192), -1);
  }

  // The 6 middle rows and row 14 take a prime each, 7 in all, if no end is left out. Of the 64 ways to choose an end
  // for each middle row, 8 leave out a given end, and no way leaves out two: 32 are left. The least of them is without
  // the primes 12, 11, 10 and 5, so it has 9, 7, 6 and 3; end 3 is then left to prime 0, and end 0 to prime 4.
  private static void bestOfMostPrimes() {
    CubeMinimiser x = loaded(MOST_PRIMES, 0);
    dueBest("13 primes", x, 7, 6 * 3 + 4, 512 + 256 + 128 + 64 + 16 + 8 + 1, 32);
    for (int i = 0; i < 13; i++) due("13 primes: bestWith(" + i + ")", x.bestWith(i), 7);
    due("13 primes: bestWith(13)", x.bestWith(13), -1);
    for (int k = 0; k < 4; k++) due("13 primes: free(" + k + ")", x.free(k), 0);
    // With all rows open, the primes are the same, and none is of use.
    CubeMinimiser open = loaded(0, MOST_PRIMES);
    due("13 primes, none on: primes()", open.primes(), 13);
    dueBest("13 primes, none on", open, 0, 0, 0, 1);
    due("13 primes, none on: bestWith(12)", open.bestWith(12), 1);
  }

  // The largest best cover: no row has a neighbour, and every prime is a row and is needed.
  private static void mostMembers() {
    CubeMinimiser x = loaded(27030, 0);
    dueBest("8 rows alone", x, 8, 32, 255, 1);
    due("8 rows alone: needed()", x.needed(), 255);
    for (int i = 0; i < 8; i++) due("8 rows alone: covers without " + i, x.covers(255 - (1 << i)), 0);
    due("8 rows alone: covers(255)", x.covers(255), 1);
    due("8 rows alone: covers(256)", x.covers(256), -1);
    x = loaded(65535 - 27030, 0);
    dueBest("the 8 others alone", x, 8, 32, 255, 1);
  }

  // "otherwise answers what it was before": each row, from each state to each state, its own too.
  private static void setEveryRow() {
    for (int r = 0; r < 16; r++) {
      for (int before = 0; before < 3; before++) {
        for (int after = 0; after < 3; after++) {
          CubeMinimiser x = loaded(0x0F0F, 0x3333);
          x.set(r, before);
          String call = "set(" + r + ", " + after + "), was " + before;
          due(call, x.set(r, after), before);
          int rest = ~(1 << r);
          int ons = 0x0F0F & rest | (after == 1 ? 1 << r : 0);
          int opens = 0x3333 & rest | (after == 2 ? 1 << r : 0);
          dueRows(call, x, ons, opens);
        }
      }
    }
  }

  // "otherwise answers how many of them were something else": all, none, or a part of the cube's rows.
  private static void fillEveryCube() {
    for (int cube = 0; cube < 81; cube++) {
      int rows = rowsOf(cube);
      int count = Integer.bitCount(rows);
      for (int how = 0; how < 3; how++) {
        String call = "fill(" + cube + ", " + how + ")";
        CubeMinimiser x = loaded(how == 0 ? 65535 : 0, how == 1 ? 65535 : 0);
        due(call + ", all something else", x.fill(cube, how), count);
        due(call + ", none something else", x.fill(cube, how), 0);
        CubeMinimiser mixed = loaded(0x0F0F, 0x3333);
        int same = how == 1 ? 0x0F0F : how == 2 ? 0x3030 : 0xC0C0;
        due(call + ", mixed", mixed.fill(cube, how), Integer.bitCount(rows & ~same));
        dueRows(call, mixed, 0x0F0F & ~rows | (how == 1 ? rows : 0), 0x3030 & ~rows | (how == 2 ? rows : 0));
      }
    }
  }

  // "row r becomes on if bit r of ons is 1, otherwise open if bit r of opens is 1, otherwise off."
  private static void loadEveryBit() {
    for (int r = 0; r < 16; r++) {
      int bit = 1 << r;
      CubeMinimiser x = loaded(0x5555, 0x3333);
      due("load(" + bit + ", 0)", x.load(bit, 0), 1);
      dueRows("load(" + bit + ", 0)", x, bit, 0);
      due("load(0, " + bit + ")", x.load(0, bit), 0);
      dueRows("load(0, " + bit + ")", x, 0, bit);
      due("load(" + bit + ", " + bit + ")", x.load(bit, bit), 1);
      dueRows("load(" + bit + ", " + bit + ")", x, bit, 0);
      due("load of all but " + r, x.load(65535 - bit, 65535), 15);
      dueRows("load of all but " + r, x, 65535 - bit, bit);
    }
  }

  // "Rows that are on become off, and rows that are off become on": an open row stays.
  private static void invertEveryRow() {
    for (int r = 0; r < 16; r++) {
      int bit = 1 << r;
      CubeMinimiser x = loaded(bit, 0);
      due("only row " + r + " on: invert()", x.invert(), 15);
      dueRows("only row " + r + " on, inverted", x, 65535 - bit, 0);
      due("only row " + r + " off: invert()", x.invert(), 1);
      dueRows("only row " + r + " off, inverted", x, bit, 0);
      x.load(0, bit);
      due("only row " + r + " open: invert()", x.invert(), 15);
      dueRows("only row " + r + " open, inverted", x, 65535 - bit, bit);
      x.load(bit, 65535);
      due("only row " + r + " not open: invert()", x.invert(), 0);
      dueRows("only row " + r + " not open, inverted", x, 0, 65535 - bit);
    }
  }

  // "How many rows a cube has": 1, 2, 4, 8 or 16, whatever the rows are.
  private static void sizeOfEveryCube() {
    int[] sizes = {16, 8, 4, 2, 1};
    for (int cube = 0; cube < 81; cube++) {
      due("size(" + cube + ")", new CubeMinimiser().size(cube), sizes[lengthOf(cube)]);
      due("size(" + cube + "), all on", loaded(65535, 0).size(cube), sizes[lengthOf(cube)]);
    }
  }

  // "A cube is ALLOWED if it has no row that is off": one row is enough to forbid it, and rows elsewhere are not.
  private static void allowedToTheLastRow() {
    for (int cube = 0; cube < 81; cube++) {
      int rows = rowsOf(cube);
      due("just its rows on: allowed(" + cube + ")", loaded(rows, 0).allowed(cube), 1);
      due("just its rows open: allowed(" + cube + ")", loaded(0, rows).allowed(cube), 1);
      for (int r = 0; r < 16; r++) {
        int want = (rows >> r & 1) == 1 ? 0 : 1;
        due("only row " + r + " off: allowed(" + cube + ")", loaded(65535 - (1 << r), 0).allowed(cube), want);
        due("only row " + r + " not open: allowed(" + cube + ")", loaded(0, 65535 - (1 << r)).allowed(cube), want);
      }
    }
  }

  // "It is PRIME if it is allowed and no other allowed cube has all its rows": with just a cube's rows not off, it is
  // the one prime, from length 0 to length 4.
  private static void oneCube() {
    for (int cube = 0; cube < 81; cube++) {
      int rows = rowsOf(cube);
      String when = "just cube " + cube;
      CubeMinimiser x = loaded(rows, 0);
      due(when + ": primes()", x.primes(), 1);
      due(when + ": prime(0)", x.prime(0), cube);
      due(when + ": prime(1)", x.prime(1), -1);
      for (int r = 0; r < 16; r++) due(when + ": primesWith(" + r + ")", x.primesWith(r), rows >> r & 1);
      due(when + ": needed()", x.needed(), 1);
      dueBest(when, x, 1, lengthOf(cube), 1, 1);
      for (int k = 0; k < 4; k++) due(when + ": free(" + k + ")", x.free(k), digits(cube)[k] == 2 ? 1 : 0);
      CubeMinimiser open = loaded(0, rows);
      due(when + ", open: prime(0)", open.prime(0), cube);
      due(when + ", open: needed()", open.needed(), 0);
      dueBest(when + ", open", open, 0, 0, 0, 1);
    }
  }

  // "the one with fewer members": 15 has the lesser number, and four members where 25 has three.
  private static void fewerMembersBeforeNumbers() {
    CubeMinimiser x = loaded(126, 0);
    due("a ring: covers(15)", x.covers(15), 1);
    dueBest("a ring", x, 3, 9, 25, 2);
  }

  // Rows 1 and 13 are on, 8 and 11 off, all others open. The primes are b0 = 0, with row 1; b1 = 1, with row 13;
  // b2 = 0 and b3 = 1, with both; b2 = 1 and b3 = 0. So 3 has the same sum of lengths as 4, and the lesser number.
  // (That the cover with fewer members has the greater sum can't be tested: there are no such rows.)
  private static void fewerMembersWithTheSameLength() {
    CubeMinimiser x = loaded(8194, 65535 - 8194 - 256 - 2048);
    int[] cubes = {26, 71, 73, 75};
    due("rows 1 and 13: primes()", x.primes(), 4);
    for (int i = 0; i < 4; i++) due("rows 1 and 13: prime(" + i + ")", x.prime(i), cubes[i]);
    due("rows 1 and 13: covers(3)", x.covers(3), 1);
    dueBest("rows 1 and 13", x, 1, 2, 4, 1);
    int[] with = {2, 2, 1, 2};
    for (int i = 0; i < 4; i++) due("rows 1 and 13: bestWith(" + i + ")", x.bestWith(i), with[i]);
  }

  // "with as many, the one with the lesser sum of lengths": 15 has the lesser number, and the sum 10 where 29 has 9.
  private static void lesserLengthBeforeNumbers() {
    CubeMinimiser x = loaded(3901, 0);
    due("3901: covers(15)", x.covers(15), 1);
    dueBest("3901", x, 4, 9, 29, 2);
  }

  // "with the same sum, the one with the lesser number": 25 and 38 have three members and the sum 9.
  private static void lesserNumberLast() {
    CubeMinimiser x = loaded(126, 0);
    due("a ring: covers(38)", x.covers(38), 1);
    due("a ring: bestCover()", x.bestCover(), 25);
  }

  // "It is a COVER if every row that is on is in one of its cubes": every set of the given primes, from none to all.
  private static void everySet(int ons, int opens, int... cubes) {
    int end = 1 << cubes.length;
    CubeMinimiser x = null;
    for (int set = 0; set < end; set++) {
      // No object is used for more than 512 calls.
      if (set % 500 == 0) x = loaded(ons, opens);
      int rows = 0;
      for (int i = 0; i < cubes.length; i++) if ((set >> i & 1) == 1) rows |= rowsOf(cubes[i]);
      String call = "load(" + ons + ", " + opens + "): covers(" + set + ")";
      due(call, x.covers(set), (ons & ~rows) == 0 ? 1 : 0);
    }
    due("load(" + ons + ", " + opens + "): covers(" + end + ")", loaded(ons, opens).covers(end), -1);
  }

  private static void coversEverySet() {
    everySet(0, 0);
    everySet(65535, 0, 80);
    everySet(126, 0, 5, 7, 11, 15, 19, 21);
    everySet(6, 120, 5, 7, 11, 15, 19, 21);
    everySet(0, 126, 5, 7, 11, 15, 19, 21);
    everySet(3901, 0, 11, 18, 35, 59, 60);
    everySet(3869, 32, 11, 18, 35, 59, 60);
    everySet(8194, 65535 - 8194 - 256 - 2048, 26, 71, 73, 75);
    everySet(MOST_PRIMES, 0, MOST);
    everySet(16384 + 1, MOST_PRIMES, MOST);
  }

  // "A prime is NEEDED if it is in every cover": it is while a row is on that no other prime has.
  private static void neededByOneRow() {
    // Rows 0, 1 and 3: the primes 0002 (rows 0, 1) and 0021 (rows 1, 3).
    due("rows 0 1 3 on: needed()", loaded(11, 0).needed(), 3);
    due("rows 1 3 on: needed()", loaded(10, 1).needed(), 2);
    due("rows 0 1 on: needed()", loaded(3, 8).needed(), 1);
    due("row 1 on: needed()", loaded(2, 9).needed(), 0);
    due("row 1 on: shortest()", loaded(2, 9).shortest(), 2);
    due("row 1 on: bestCover()", loaded(2, 9).bestCover(), 1);
    due("row 1 on: bestWith(1)", loaded(2, 9).bestWith(1), 1);
  }

  // "there are no two rows that differ just in bit k, one of which is on and the other off": one pair is enough, and
  // it counts for its own bit alone; a pair with an open row doesn't count.
  private static void freeToTheLastPair() {
    for (int r = 0; r < 16; r++) {
      for (int k = 0; k < 4; k++) {
        int on = 1 << r;
        int off = 1 << (r ^ (8 >> k));
        String when = "just row " + r + " on and its neighbour in bit " + k + " off";
        CubeMinimiser x = loaded(on, 65535 - on - off);
        for (int bit = 0; bit < 4; bit++) due(when + ": free(" + bit + ")", x.free(bit), bit == k ? 0 : 1);
        dueAllFree(when + ", then open", loaded(on, 65535));
        dueAllFree(when + ", and the other open", loaded(0, 65535 - off));
      }
      // Two bits differ: no two rows that are not open differ in just one.
      dueAllFree("row " + r + " on and one two bits away off", loaded(1 << r, 65535 - (1 << r) - (1 << (r ^ 6))));
      dueAllFree("row " + r + " on and the one opposite off", loaded(1 << r, 65535 - (1 << r) - (1 << (r ^ 15))));
    }
  }

  public static void main(String[] args) {
    allOff();
    allOn();
    allOpen();
    noRowOn();
    mostPrimes();
    bestOfMostPrimes();
    mostMembers();
    setEveryRow();
    fillEveryCube();
    loadEveryBit();
    invertEveryRow();
    sizeOfEveryCube();
    allowedToTheLastRow();
    oneCube();
    fewerMembersBeforeNumbers();
    fewerMembersWithTheSameLength();
    lesserLengthBeforeNumbers();
    lesserNumberLast();
    coversEverySet();
    neededByOneRow();
    freeToTheLastPair();
    System.out.println(wrong == 0 ? "all answers are as due" : wrong + " answers are not as due");
    if (wrong != 0) System.exit(1);
  }
}
