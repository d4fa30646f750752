/** Shortest descriptions of a set of rows of four bits, with some rows left open. */
public final class CubeMinimiser {
    private static final int OFF = 0;
    private static final int ON = 1;
    private static final int OPEN = 2;

    private static final int BITS = 4;
    private static final int ROWS = 16;
    private static final int ALL_ROWS = 65535;
    private static final int CUBES = 81;
    private static final int NOTHING_ASKED = 2;
    private static final int MAX_PRIMES = 13;

    // A set of rows is held as the sum of 2^r over its rows r; no row is in both of these.
    private int onRows = 0;
    private int openRows = 0;

    // What a cube has and asks for never changes, so both are worked out once.
    private final int[] cubeRows = new int[CUBES];
    private final int[] cubeLength = new int[CUBES];

    // The primes follow from the rows: every change of rows finds them anew, so that questions only read.
    private final int[] primeCubes = new int[MAX_PRIMES];
    private int primeCount = 0;

    public CubeMinimiser() {
        for (int cube = 0; cube < CUBES; cube++) {
            cubeRows[cube] = rowsAskedFor(cube);
            cubeLength[cube] = bitsAskedFor(cube);
        }
    }

    public int set(int row, int how) {
        if (!isGoodRow(row)) {
            return -1;
        }
        if (!isGoodHow(how)) {
            return -2;
        }
        int before = stateOf(row);
        makeRows(1 << row, how);
        return before;
    }

    public int fill(int cube, int how) {
        if (!isGoodCube(cube)) {
            return -1;
        }
        if (!isGoodHow(how)) {
            return -2;
        }
        int rows = cubeRows[cube];
        int alreadySo = rowsThatAre(how);
        int changed = countMembers(rows & ~alreadySo);
        makeRows(rows, how);
        return changed;
    }

    public int load(int ons, int opens) {
        if (!isSetOfRows(ons)) {
            return -1;
        }
        if (!isSetOfRows(opens)) {
            return -2;
        }
        onRows = ons;
        openRows = opens & ~ons;
        findPrimes();
        return countMembers(onRows);
    }

    public int invert() {
        onRows = rowsThatAre(OFF);
        findPrimes();
        return countMembers(onRows);
    }

    public int row(int row) {
        if (!isGoodRow(row)) {
            return -1;
        }
        return stateOf(row);
    }

    public int size(int cube) {
        if (!isGoodCube(cube)) {
            return -1;
        }
        return countMembers(cubeRows[cube]);
    }

    public int allowed(int cube) {
        if (!isGoodCube(cube)) {
            return -1;
        }
        return isAllowed(cube) ? 1 : 0;
    }

    public int primes() {
        return primeCount;
    }

    public int prime(int i) {
        if (!isPrimeNumber(i)) {
            return -1;
        }
        return primeCubes[i];
    }

    public int primesWith(int row) {
        if (!isGoodRow(row)) {
            return -1;
        }
        int found = 0;
        for (int i = 0; i < primeCount; i++) {
            if (hasMember(cubeRows[primeCubes[i]], row)) {
                found |= 1 << i;
            }
        }
        return found;
    }

    public int needed() {
        int found = 0;
        int everyPrime = allPrimes();
        for (int i = 0; i < primeCount; i++) {
            // A set with more members has more rows: if all the others fail without it, every set does.
            if (!isCover(everyPrime & ~(1 << i))) {
                found |= 1 << i;
            }
        }
        return found;
    }

    public int best() {
        int cover = findBestCover();
        return countMembers(cover);
    }

    public int bestLength() {
        int cover = findBestCover();
        return sumOfLengths(cover);
    }

    public int bestCover() {
        return findBestCover();
    }

    public int covers(int set) {
        if (set < 0 || set >= endOfSets()) {
            return -1;
        }
        return isCover(set) ? 1 : 0;
    }

    public int shortest() {
        int cover = findBestCover();
        int members = countMembers(cover);
        int end = endOfSets();
        int found = 0;
        for (int set = 0; set < end; set++) {
            if (isCover(set) && countMembers(set) == members) {
                found++;
            }
        }
        return found;
    }

    public int bestWith(int i) {
        if (!isPrimeNumber(i)) {
            return -1;
        }
        int end = endOfSets();
        // The set of all primes is a cover with every prime in it, so the least is at most its size.
        int least = primeCount;
        for (int set = 0; set < end; set++) {
            if (hasMember(set, i) && isCover(set)) {
                int members = countMembers(set);
                least = members < least ? members : least;
            }
        }
        return least;
    }

    public int free(int k) {
        if (k < 0 || k >= BITS) {
            return -1;
        }
        int weight = 8 >> k;
        int offRows = rowsThatAre(OFF);
        for (int row = 0; row < ROWS; row++) {
            if (hasMember(onRows, row) && hasMember(offRows, row ^ weight)) {
                return 0;
            }
        }
        return 1;
    }

    private static boolean isGoodRow(int row) {
        return row >= 0 && row < ROWS;
    }

    private static boolean isGoodCube(int cube) {
        return cube >= 0 && cube < CUBES;
    }

    private static boolean isGoodHow(int how) {
        return how >= OFF && how <= OPEN;
    }

    private static boolean isSetOfRows(int rows) {
        return rows >= 0 && rows <= ALL_ROWS;
    }

    private boolean isPrimeNumber(int i) {
        return i >= 0 && i < primeCount;
    }

    private static boolean hasMember(int set, int member) {
        return ((set >> member) & 1) == 1;
    }

    private static int countMembers(int set) {
        int count = 0;
        // No set here, of rows or of primes, has a member above 15.
        for (int member = 0; member < ROWS; member++) {
            count += (set >> member) & 1;
        }
        return count;
    }

    private static int rowsAskedFor(int cube) {
        int rows = 0;
        for (int row = 0; row < ROWS; row++) {
            if (cubeHasRow(cube, row)) {
                rows |= 1 << row;
            }
        }
        return rows;
    }

    private static boolean cubeHasRow(int cube, int row) {
        int digits = cube;
        // b3 is the last digit of the cube and the lowest bit of the row, so both are read from there.
        for (int place = 0; place < BITS; place++) {
            int asked = digits % 3;
            int bit = (row >> place) & 1;
            if (asked != NOTHING_ASKED && asked != bit) {
                return false;
            }
            digits /= 3;
        }
        return true;
    }

    private static int bitsAskedFor(int cube) {
        int digits = cube;
        int length = 0;
        for (int place = 0; place < BITS; place++) {
            if (digits % 3 != NOTHING_ASKED) {
                length++;
            }
            digits /= 3;
        }
        return length;
    }

    private int stateOf(int row) {
        if (hasMember(onRows, row)) {
            return ON;
        }
        return hasMember(openRows, row) ? OPEN : OFF;
    }

    private int rowsThatAre(int how) {
        if (how == ON) {
            return onRows;
        }
        return how == OPEN ? openRows : ALL_ROWS & ~(onRows | openRows);
    }

    private void makeRows(int rows, int how) {
        onRows &= ~rows;
        openRows &= ~rows;
        if (how == ON) {
            onRows |= rows;
        } else if (how == OPEN) {
            openRows |= rows;
        }
        findPrimes();
    }

    private boolean isAllowed(int cube) {
        return (cubeRows[cube] & ~(onRows | openRows)) == 0;
    }

    private boolean isPrime(int cube) {
        if (!isAllowed(cube)) {
            return false;
        }
        for (int other = 0; other < CUBES; other++) {
            boolean hasAllRows = (cubeRows[cube] & ~cubeRows[other]) == 0;
            if (other != cube && hasAllRows && isAllowed(other)) {
                return false;
            }
        }
        return true;
    }

    private void findPrimes() {
        primeCount = 0;
        for (int cube = 0; cube < CUBES; cube++) {
            // There are never more, but only this guard shows that the index is good.
            if (primeCount < MAX_PRIMES && isPrime(cube)) {
                primeCubes[primeCount] = cube;
                primeCount++;
            }
        }
    }

    // The first number beyond the sets of primes: a loop that stops below it ends whatever it is.
    private int endOfSets() {
        return 1 << primeCount;
    }

    private int allPrimes() {
        return endOfSets() - 1;
    }

    private boolean isCover(int set) {
        int missing = onRows;
        for (int i = 0; i < primeCount; i++) {
            if (hasMember(set, i)) {
                missing &= ~cubeRows[primeCubes[i]];
            }
        }
        return missing == 0;
    }

    private int sumOfLengths(int set) {
        int sum = 0;
        for (int i = 0; i < primeCount; i++) {
            if (hasMember(set, i)) {
                sum += cubeLength[primeCubes[i]];
            }
        }
        return sum;
    }

    private int findBestCover() {
        int last = allPrimes();
        // The set of all primes is always a cover; no row that is on is without a prime.
        int bestSoFar = last;
        for (int set = 0; set < last; set++) {
            if (isCover(set) && isBetter(set, bestSoFar)) {
                bestSoFar = set;
            }
        }
        return bestSoFar;
    }

    private boolean isBetter(int set, int other) {
        int members = countMembers(set);
        int otherMembers = countMembers(other);
        if (members != otherMembers) {
            return members < otherMembers;
        }
        int length = sumOfLengths(set);
        int otherLength = sumOfLengths(other);
        if (length != otherLength) {
            return length < otherLength;
        }
        return set < other;
    }
}
