/**
 * How functions of a letter x grow as x does. Each function is a sum of TERMS, the highest first,
 * and is known by its handle. ../shared/DOC.md has the words in capitals.
 */
public final class GrowthLimits {
  private static final int MOST_FUNCTIONS = 80;
  private static final int MOST_TERMS = 10;
  private static final int MOST_EXPONENT = 99;
  private static final int MOST_PART = 1000000;
  private static final int BITS_OF_A_SET = 32;

  /** A product of two functions of ten TERMS puts this many, and no other work puts more. */
  private static final int MOST_ON_THE_WAY = MOST_TERMS * MOST_TERMS;

  /** Far above what Euclid's way needs for two longs. */
  private static final int MOST_DIVISIONS = 200;

  // A TERM is a row of cells: its EXPONENTS in the order of their rank, then its NUMBER.
  private static final int P = 0;
  private static final int Q = 1;
  private static final int A = 2;
  private static final int B = 3;
  private static final int D = 4;
  private static final int EXPONENTS = 5;
  private static final int ABOVE = 5;
  private static final int BELOW = 6;
  private static final int CELLS = 7;

  private final int[] kept;
  private final int[] sizes;
  private final Work work;
  private int made;

  public GrowthLimits() {
    kept = new int[MOST_FUNCTIONS * MOST_TERMS * CELLS];
    sizes = new int[MOST_FUNCTIONS];
    work = new Work();
    made = 0;
  }

  public int number(int above, int below) throws ArithmeticException, IllegalStateException {
    if (below == 0) {
      throw new ArithmeticException("the part below is 0");
    }
    requireRoom();
    work.begin();
    if (above != 0) {
      work.takeOne();
      work.multiply(above, below);
      work.putTaken();
    }
    return keep();
  }

  public int letter(int kind) throws IllegalArgumentException, IllegalStateException {
    if (kind < P || kind > D) {
      throw new IllegalArgumentException("no such kind of letter");
    }
    requireRoom();
    work.begin();
    putMultiple(1, kind, 1);
    return keep();
  }

  public int add(int a, int b) throws IndexOutOfBoundsException, IllegalStateException {
    requireFunction(a);
    requireFunction(b);
    requireRoom();
    work.begin();
    putAll(a);
    putAll(b);
    return keep();
  }

  public int times(int a, int b) throws IndexOutOfBoundsException, IllegalStateException {
    requireFunction(a);
    requireFunction(b);
    requireRoom();
    work.begin();
    for (int i = 0; i < sizes[a]; i++) {
      for (int j = 0; j < sizes[b]; j++) {
        work.take(kept, rowOf(a, i));
        work.multiplyByTerm(kept, rowOf(b, j));
        work.putTaken();
      }
    }
    return keep();
  }

  public int over(int a, int b) throws IndexOutOfBoundsException, IllegalStateException {
    requireFunction(a);
    requireFunction(b);
    requireRoom();
    if (sizes[b] != 1) {
      return -1;
    }
    work.begin();
    for (int i = 0; i < sizes[a]; i++) {
      work.take(kept, rowOf(a, i));
      work.divideByTerm(kept, rowOf(b, 0));
      work.putTaken();
    }
    return keep();
  }

  public int derive(int a) throws IndexOutOfBoundsException, IllegalStateException {
    requireFunction(a);
    requireRoom();
    work.begin();
    for (int i = 0; i < sizes[a]; i++) {
      int at = rowOf(a, i);
      putSlopePart(at, 2 * kept[at + P], 1, 0, 0);
      putSlopePart(at, kept[at + Q], 0, 0, 0);
      putSlopePart(at, kept[at + A], -1, 0, 0);
      putSlopePart(at, kept[at + B], -1, -1, 0);
      putSlopePart(at, kept[at + D], -1, -1, -1);
    }
    return keep();
  }

  public int logarithm(int a) throws IndexOutOfBoundsException, IllegalStateException {
    requireFunction(a);
    requireRoom();
    if (!hasLogarithm(a)) {
      return -1;
    }
    int at = rowOf(a, 0);
    work.begin();
    putMultiple(kept[at + P], A, 2);
    putMultiple(kept[at + Q], A, 1);
    putMultiple(kept[at + A], B, 1);
    putMultiple(kept[at + B], D, 1);
    return keep();
  }

  public int exponential(int a) throws IndexOutOfBoundsException, IllegalStateException {
    requireFunction(a);
    requireRoom();
    work.begin();
    work.takeOne();
    for (int i = 0; i < sizes[a]; i++) {
      int at = rowOf(a, i);
      int cell = cellOfExponential(at);
      if (cell < 0) {
        return -1;
      }
      work.raise(cell, kept[at + ABOVE]);
    }
    work.putTaken();
    return keep();
  }

  public int terms(int a) throws IndexOutOfBoundsException {
    requireFunction(a);
    return sizes[a];
  }

  public int term(int f, int k, int what)
      throws IndexOutOfBoundsException, IllegalArgumentException {
    requireFunction(f);
    if (k < 0 || k >= sizes[f]) {
      throw new IllegalArgumentException("no such term");
    }
    if (what < 0 || what >= CELLS) {
      throw new IllegalArgumentException("no such part of a term");
    }
    return kept[rowOf(f, k) + what];
  }

  public int limit(int a) throws IndexOutOfBoundsException {
    requireFunction(a);
    return endOf(a);
  }

  public int value(int a, int part)
      throws IndexOutOfBoundsException, IllegalStateException, IllegalArgumentException {
    requireFunction(a);
    if (endOf(a) != 0) {
      throw new IllegalStateException("it comes near to no number");
    }
    requirePart(part);
    int at = rowOf(a, 0);
    if (sizes[a] > 0 && trendOf(at) == 0) {
      return kept[at + (part == 0 ? ABOVE : BELOW)];
    }
    return part == 0 ? 0 : 1;
  }

  public int compare(int a, int b) throws IndexOutOfBoundsException {
    requireFunction(a);
    requireFunction(b);
    return rankOf(a, b);
  }

  public long ratio(int a, int b, int part)
      throws IndexOutOfBoundsException, IllegalStateException, IllegalArgumentException {
    requireFunction(a);
    requireFunction(b);
    if (sizes[a] == 0 || sizes[b] == 0 || rankOf(a, b) != 0) {
      throw new IllegalStateException("their quotient comes near to no number but 0");
    }
    requirePart(part);
    int one = rowOf(a, 0);
    int other = rowOf(b, 0);
    long above = (long) kept[one + ABOVE] * kept[other + BELOW];
    long below = (long) kept[one + BELOW] * kept[other + ABOVE];
    long divisor = divisorOf(above, below);
    return part == 0 ? above / divisor : below / divisor;
  }

  public int sign(int a) throws IndexOutOfBoundsException {
    requireFunction(a);
    return sizes[a] == 0 ? 0 : signOf(rowOf(a, 0));
  }

  public boolean same(int a, int b) throws IndexOutOfBoundsException {
    requireFunction(a);
    requireFunction(b);
    if (sizes[a] != sizes[b]) {
      return false;
    }
    int one = rowOf(a, 0);
    int other = rowOf(b, 0);
    for (int i = 0; i < sizes[a] * CELLS; i++) {
      if (kept[one + i] != kept[other + i]) {
        return false;
      }
    }
    return true;
  }

  public int fastest(int set) throws IllegalArgumentException {
    int best = -1;
    for (int handle = 0; handle < BITS_OF_A_SET; handle++) {
      if ((set >>> handle & 1) == 1) {
        if (handle >= made) {
          throw new IllegalArgumentException("a bit is set of a function that isn't there");
        }
        if (best < 0 || rankOf(handle, best) > 0) {
          best = handle;
        }
      }
    }
    return best;
  }

  public int count() {
    return made;
  }

  private void requireFunction(int handle) {
    if (handle < 0 || handle >= made) {
      throw new IndexOutOfBoundsException("no such function");
    }
  }

  private void requireRoom() {
    if (made >= MOST_FUNCTIONS) {
      throw new IllegalStateException("no room for one more function");
    }
  }

  private static void requirePart(int part) {
    if (part != 0 && part != 1) {
      throw new IllegalArgumentException("no such part of a number");
    }
  }

  /** Only here does a call change what is kept, so that a refused one changes nothing. */
  private int keep() {
    if (work.tooGreat || work.size > MOST_TERMS) {
      throw new IllegalStateException("the new function is too great");
    }
    System.arraycopy(work.rows, 0, kept, rowOf(made, 0), work.size * CELLS);
    sizes[made] = work.size;
    made++;
    return made - 1;
  }

  private static int rowOf(int handle, int k) {
    return (handle * MOST_TERMS + k) * CELLS;
  }

  private void putAll(int a) {
    for (int i = 0; i < sizes[a]; i++) {
      work.take(kept, rowOf(a, i));
      work.putTaken();
    }
  }

  /** Puts a whole multiple of one of the letters to a power; a multiple of 0 is no TERM. */
  private void putMultiple(int factor, int cell, int power) {
    if (factor != 0) {
      work.takeOne();
      work.multiply(factor, 1);
      work.raise(cell, power);
      work.putTaken();
    }
  }

  private void putSlopePart(int at, int factor, int moreX, int moreL, int moreM) {
    if (factor != 0) {
      work.take(kept, at);
      work.multiply(factor, 1);
      work.raise(A, moreX);
      work.raise(B, moreL);
      work.raise(D, moreM);
      work.putTaken();
    }
  }

  private boolean hasLogarithm(int a) {
    int at = rowOf(a, 0);
    return sizes[a] == 1 && kept[at + ABOVE] == 1 && kept[at + BELOW] == 1 && kept[at + D] == 0;
  }

  /** The EXPONENT that e to the power of this TERM has, or -1 if that is no TERM. */
  private int cellOfExponential(int at) {
    int factor = kept[at + ABOVE];
    if (kept[at + BELOW] != 1 || factor < -MOST_EXPONENT || factor > MOST_EXPONENT) {
      return -1;
    }
    if (holds(at, 2, 0, 0)) {
      return P;
    }
    if (holds(at, 1, 0, 0)) {
      return Q;
    }
    if (holds(at, 0, 1, 0)) {
      return A;
    }
    return holds(at, 0, 0, 1) ? B : -1;
  }

  private boolean holds(int at, int a, int b, int d) {
    return kept[at + P] == 0 && kept[at + Q] == 0
        && kept[at + A] == a && kept[at + B] == b && kept[at + D] == d;
  }

  /** What limit() tells: the highest TERM alone decides it. */
  private int endOf(int a) {
    int at = rowOf(a, 0);
    return sizes[a] > 0 && trendOf(at) > 0 ? signOf(at) : 0;
  }

  /** 1 if the TERM's size grows without end, -1 if it comes near to 0, 0 if it stays. */
  private int trendOf(int at) {
    for (int cell = 0; cell < EXPONENTS; cell++) {
      if (kept[at + cell] != 0) {
        return kept[at + cell] > 0 ? 1 : -1;
      }
    }
    return 0;
  }

  private int signOf(int at) {
    return kept[at + ABOVE] > 0 ? 1 : -1;
  }

  /** What compare() tells: 0 is below all others, else the highest TERMS decide it. */
  private int rankOf(int a, int b) {
    if (sizes[a] == 0) {
      return sizes[b] == 0 ? 0 : -1;
    }
    return sizes[b] == 0 ? 1 : rankOfTerms(kept, rowOf(a, 0), kept, rowOf(b, 0));
  }

  /** 1 if the first TERM is ABOVE the second one, -1 if that is ABOVE it, 0 if neither. */
  private static int rankOfTerms(int[] rows, int at, int[] others, int other) {
    for (int cell = 0; cell < EXPONENTS; cell++) {
      if (rows[at + cell] != others[other + cell]) {
        return rows[at + cell] > others[other + cell] ? 1 : -1;
      }
    }
    return 0;
  }

  /**
   * What both parts of a fraction are divided by for its lowest terms, above 0 below: so it has the
   * sign of the part below. It is never 0, for callers divide by it.
   */
  private static long divisorOf(long above, long below) {
    long divisor = Math.abs(above);
    long rest = Math.abs(below);
    for (int i = 0; i < MOST_DIVISIONS && rest != 0; i++) {
      long next = divisor % rest;
      divisor = rest;
      rest = next;
    }
    if (divisor == 0) {
      return 1;
    }
    return below < 0 ? -divisor : divisor;
  }

  /**
   * The sum that a call makes, apart from what is kept: it may have more TERMS on the way than in
   * the end. What is TOO GREAT is marked and left out, and keep() then refuses the whole sum.
   */
  private static final class Work {
    final int[] rows;
    final int[] taken;
    int size;
    boolean tooGreat;

    Work() {
      rows = new int[MOST_ON_THE_WAY * CELLS];
      taken = new int[CELLS];
      size = 0;
      tooGreat = false;
    }

    void begin() {
      size = 0;
      tooGreat = false;
    }

    void takeOne() {
      for (int cell = 0; cell < EXPONENTS; cell++) {
        taken[cell] = 0;
      }
      taken[ABOVE] = 1;
      taken[BELOW] = 1;
    }

    void take(int[] from, int at) {
      System.arraycopy(from, at, taken, 0, CELLS);
    }

    void multiply(long above, long below) {
      setNumber(taken, 0, taken[ABOVE] * above, taken[BELOW] * below);
    }

    void multiplyByTerm(int[] from, int at) {
      multiply(from[at + ABOVE], from[at + BELOW]);
      for (int cell = 0; cell < EXPONENTS; cell++) {
        raise(cell, from[at + cell]);
      }
    }

    void divideByTerm(int[] from, int at) {
      multiply(from[at + BELOW], from[at + ABOVE]);
      for (int cell = 0; cell < EXPONENTS; cell++) {
        raise(cell, -from[at + cell]);
      }
    }

    void raise(int cell, int by) {
      int power = taken[cell] + by;
      if (power < -MOST_EXPONENT || power > MOST_EXPONENT) {
        tooGreat = true;
      } else {
        taken[cell] = power;
      }
    }

    void putTaken() {
      int row = placeOfTaken();
      if (row < size && rankOfTerms(rows, row * CELLS, taken, 0) == 0) {
        addTaken(row);
      } else {
        insertTaken(row);
      }
    }

    /** The first row whose TERM isn't ABOVE the taken one, found by halving. */
    private int placeOfTaken() {
      int low = 0;
      int high = size;
      for (int i = 0; i < MOST_ON_THE_WAY && low < high; i++) {
        int middle = (low + high) >>> 1;
        if (rankOfTerms(rows, middle * CELLS, taken, 0) > 0) {
          low = middle + 1;
        } else {
          high = middle;
        }
      }
      return low;
    }

    private void addTaken(int row) {
      int at = row * CELLS;
      long above = (long) rows[at + ABOVE] * taken[BELOW] + (long) taken[ABOVE] * rows[at + BELOW];
      if (above == 0) {
        removeRow(row);
      } else {
        setNumber(rows, at, above, (long) rows[at + BELOW] * taken[BELOW]);
      }
    }

    private void insertTaken(int row) {
      if (size >= MOST_ON_THE_WAY) {
        tooGreat = true;
        return;
      }
      int at = row * CELLS;
      System.arraycopy(rows, at, rows, at + CELLS, (size - row) * CELLS);
      System.arraycopy(taken, 0, rows, at, CELLS);
      size++;
    }

    private void removeRow(int row) {
      int at = row * CELLS;
      System.arraycopy(rows, at + CELLS, rows, at, (size - row - 1) * CELLS);
      size--;
    }

    private void setNumber(int[] cells, int at, long above, long below) {
      long divisor = divisorOf(above, below);
      long lowestAbove = above / divisor;
      long lowestBelow = below / divisor;
      if (Math.abs(lowestAbove) > MOST_PART || lowestBelow > MOST_PART) {
        tooGreat = true;
      } else {
        cells[at + ABOVE] = (int) lowestAbove;
        cells[at + BELOW] = (int) lowestBelow;
      }
    }
  }
}
