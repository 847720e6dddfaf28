/** Every promise of the document by hand: ordinary inputs, edges, wrong inputs. */
public final class PromisesTest {
  private static final Class<?> INDEX = IndexOutOfBoundsException.class;
  private static final Class<?> STATE = IllegalStateException.class;
  private static final Class<?> ARGUMENT = IllegalArgumentException.class;
  private static final Class<?> ARITHMETIC = ArithmeticException.class;

  private static int wrong = 0;

  private interface Call {
    long run();
  }

  public static void main(String[] args) {
    promise1NewObject();
    promise2Number();
    promise3Letter();
    promise4Add();
    promise5Times();
    promise6Over();
    promise7Derive();
    promise8Logarithm();
    promise9Exponential();
    promise10Terms();
    promise11Term();
    promise12Limit();
    promise13Value();
    promise14Compare();
    promise15Ratio();
    promise16Sign();
    promise17Same();
    promise18Fastest();
    promise19Count();
    fullObject();
    refusedCallsChangeNothing();
    System.out.println(wrong == 0 ? "all promises hold" : wrong + " answers are not as due");
    if (wrong != 0) {
      System.exit(1);
    }
  }

  private static void due(String what, long got, long want) {
    if (got != want) {
      wrong++;
      System.out.println(what + " answered " + got + ", due is " + want);
    }
  }

  private static void refused(String what, Class<?> want, Call call) {
    String got;
    try {
      got = Long.toString(call.run());
    } catch (RuntimeException e) {
      if (e.getClass() == want) {
        return;
      }
      got = e.getClass().getName();
    }
    wrong++;
    System.out.println(what + " answered " + got + ", due is " + want.getName());
  }

  /** The function as text: a TERM is number:p,q,a,b,d. */
  private static String text(GrowthLimits g, int f) {
    StringBuilder out = new StringBuilder();
    for (int k = 0; k < g.terms(f); k++) {
      out.append(k == 0 ? "" : " ").append(g.term(f, k, 5));
      out.append(g.term(f, k, 6) == 1 ? "" : "/" + g.term(f, k, 6)).append(':');
      for (int what = 0; what < 5; what++) {
        out.append(what == 0 ? "" : ",").append(g.term(f, k, what));
      }
    }
    return out.toString();
  }

  private static void dueText(String what, GrowthLimits g, int f, String want) {
    String got = f < 0 ? "none" : text(g, f);
    if (!got.equals(want)) {
      wrong++;
      System.out.println(what + " is [" + got + "], due is [" + want + "]");
    }
  }

  /** One TERM; it costs some handles. */
  private static int make(GrowthLimits g, int above, int below, int p, int q, int a, int b, int d) {
    int f = g.number(above, below);
    int[] exponents = {p, q, a, b, d};
    for (int kind = 0; kind < 5; kind++) {
      if (exponents[kind] != 0) {
        f = g.times(f, power(g, kind, exponents[kind]));
      }
    }
    return f;
  }

  private static int power(GrowthLimits g, int kind, int exponent) {
    int size = Math.abs(exponent);
    int letter = g.letter(kind);
    int f = -1;
    int square = letter;
    for (int rest = size; rest > 0; rest >>= 1) {
      if ((rest & 1) == 1) {
        f = f < 0 ? square : g.times(f, square);
      }
      if (rest > 1) {
        square = g.times(square, square);
      }
    }
    return exponent > 0 ? f : g.over(g.number(1, 1), f);
  }

  /** 1 + x + x x + .. up to the power of terms - 1, ever the newest handle. */
  private static int powers(GrowthLimits g, int terms) {
    int x = g.letter(2);
    int one = g.number(1, 1);
    int f = one;
    for (int i = 1; i < terms; i++) {
      f = g.add(g.times(f, x), one);
    }
    return f;
  }

  private static void fill(GrowthLimits g) {
    while (g.count() < 80) {
      g.letter(2);
    }
  }

  private static void promise1NewObject() {
    GrowthLimits g = new GrowthLimits();
    due("new count", g.count(), 0);
    refused("new terms(0)", INDEX, () -> g.terms(0));
    due("new fastest(0)", g.fastest(0), -1);
    g.letter(0);
    due("another new count", new GrowthLimits().count(), 0);
    due("count beside another new one", g.count(), 1);
  }

  private static void promise2Number() {
    GrowthLimits g = new GrowthLimits();
    due("number(3, 4)", g.number(3, 4), 0);
    dueText("3/4", g, 0, "3/4:0,0,0,0,0");
    dueText("6/-4", g, g.number(6, -4), "-3/2:0,0,0,0,0");
    dueText("-6/-4", g, g.number(-6, -4), "3/2:0,0,0,0,0");
    dueText("0/-7", g, g.number(0, -7), "");
    dueText("0/least", g, g.number(0, Integer.MIN_VALUE), "");
    dueText("least/least", g, g.number(Integer.MIN_VALUE, Integer.MIN_VALUE), "1:0,0,0,0,0");
    dueText("2^30/least", g, g.number(1 << 30, Integer.MIN_VALUE), "-1/2:0,0,0,0,0");
    dueText("1000000", g, g.number(1000000, 1), "1000000:0,0,0,0,0");
    dueText("-1000000", g, g.number(-1000000, 1), "-1000000:0,0,0,0,0");
    dueText("1/1000000", g, g.number(1, 1000000), "1/1000000:0,0,0,0,0");
    dueText("2000000/2", g, g.number(2000000, 2), "1000000:0,0,0,0,0");
    refused("1000001/1", STATE, () -> g.number(1000001, 1));
    refused("-1000001/1", STATE, () -> g.number(-1000001, 1));
    refused("1/1000001", STATE, () -> g.number(1, 1000001));
    refused("1/-1000001", STATE, () -> g.number(1, -1000001));
    refused("least/1", STATE, () -> g.number(Integer.MIN_VALUE, 1));
    refused("1/least", STATE, () -> g.number(1, Integer.MIN_VALUE));
    refused("greatest/least", STATE, () -> g.number(Integer.MAX_VALUE, Integer.MIN_VALUE));
    refused("1/0", ARITHMETIC, () -> g.number(1, 0));
    refused("0/0", ARITHMETIC, () -> g.number(0, 0));
    refused("2000000/0", ARITHMETIC, () -> g.number(2000000, 0));
  }

  private static void promise3Letter() {
    GrowthLimits g = new GrowthLimits();
    String[] want = {
      "1:1,0,0,0,0", "1:0,1,0,0,0", "1:0,0,1,0,0", "1:0,0,0,1,0", "1:0,0,0,0,1"
    };
    for (int kind = 0; kind < 5; kind++) {
      due("letter", g.letter(kind), kind);
      dueText("letter(" + kind + ")", g, kind, want[kind]);
    }
    refused("letter(5)", ARGUMENT, () -> g.letter(5));
    refused("letter(-1)", ARGUMENT, () -> g.letter(-1));
    refused("letter(least)", ARGUMENT, () -> g.letter(Integer.MIN_VALUE));
    refused("letter(greatest)", ARGUMENT, () -> g.letter(Integer.MAX_VALUE));
  }

  private static void promise4Add() {
    GrowthLimits g = new GrowthLimits();
    int zero = g.number(0, 1);
    int low = g.letter(4);
    int all = g.number(1, 2);
    for (int kind = 4; kind >= 0; kind--) {
      all = g.add(all, g.letter(kind));
    }
    dueText("all letters", g, all,
        "1:1,0,0,0,0 1:0,1,0,0,0 1:0,0,1,0,0 1:0,0,0,1,0 1:0,0,0,0,1 1/2:0,0,0,0,0");
    dueText("0 + M", g, g.add(zero, low), "1:0,0,0,0,1");
    dueText("M + 0", g, g.add(low, zero), "1:0,0,0,0,1");
    dueText("0 + 0", g, g.add(zero, zero), "");
    dueText("all + M", g, g.add(all, low),
        "1:1,0,0,0,0 1:0,1,0,0,0 1:0,0,1,0,0 1:0,0,0,1,0 2:0,0,0,0,1 1/2:0,0,0,0,0");
    int minus = g.times(g.number(-1, 1), low);
    dueText("all - M", g, g.add(all, minus),
        "1:1,0,0,0,0 1:0,1,0,0,0 1:0,0,1,0,0 1:0,0,0,1,0 1/2:0,0,0,0,0");
    dueText("M - M", g, g.add(low, minus), "");
    int minusAll = g.times(g.number(-1, 1), all);
    dueText("all - all", g, g.add(all, minusAll), "");
    dueText("1/6 + 1/3", g, g.add(g.number(1, 6), g.number(1, 3)), "1/2:0,0,0,0,0");
    dueText("highest kept", g, g.add(g.letter(2), g.over(g.number(1, 1), g.letter(0))),
        "1:0,0,1,0,0 1:-1,0,0,0,0");
    refused("add(-1, 0)", INDEX, () -> g.add(-1, 0));
    refused("add(0, -1)", INDEX, () -> g.add(0, -1));
    refused("add(count, 0)", INDEX, () -> g.add(g.count(), 0));
    refused("add(0, count)", INDEX, () -> g.add(0, g.count()));
    refused("add(least, greatest)", INDEX, () -> g.add(Integer.MIN_VALUE, Integer.MAX_VALUE));
    addTooGreat();
  }

  private static void addTooGreat() {
    GrowthLimits g = new GrowthLimits();
    int most = g.number(1000000, 1);
    int one = g.number(1, 1);
    int least = g.number(-1000000, 1);
    refused("1000000 + 1", STATE, () -> g.add(most, one));
    refused("1000000 + 1000000", STATE, () -> g.add(most, most));
    refused("-1000000 - 1000000", STATE, () -> g.add(least, least));
    dueText("1000000 - 1000000", g, g.add(most, least), "");
    dueText("999999 + 1", g, g.add(g.number(999999, 1), one), "1000000:0,0,0,0,0");
    int tiny = g.number(1, 1000000);
    dueText("parts beyond an int on the way", g, g.add(tiny, tiny), "1/500000:0,0,0,0,0");
    dueText("999999/1000000 + 1/1000000", g, g.add(g.number(999999, 1000000), tiny),
        "1:0,0,0,0,0");
    dueText("-999999/1000000 - 1/1000000", g, g.add(g.number(-1, 1000000),
        g.number(-999999, 1000000)), "-1:0,0,0,0,0");
    int prime = g.number(1, 999983);
    int half = g.number(1, 2);
    refused("1/999983 + 1/2", STATE, () -> g.add(prime, half));
    GrowthLimits h = new GrowthLimits();
    int ten = powers(h, 10);
    due("ten terms", h.terms(ten), 10);
    int log = h.letter(3);
    refused("ten terms and one", STATE, () -> h.add(ten, log));
    refused("one and ten terms", STATE, () -> h.add(log, ten));
    due("ten and the same ten", h.terms(h.add(ten, ten)), 10);
    int minusOne = h.number(-1, 1);
    int second = h.add(log, minusOne);
    due("ten, one less and one more", h.terms(h.add(ten, second)), 10);
  }

  private static void promise5Times() {
    GrowthLimits g = new GrowthLimits();
    int x = g.letter(2);
    int one = g.number(1, 1);
    int minus = g.number(-1, 1);
    int more = g.add(x, one);
    int less = g.add(x, minus);
    dueText("(x + 1)(x - 1)", g, g.times(more, less), "1:0,0,2,0,0 -1:0,0,0,0,0");
    dueText("(x - 1)(x + 1)", g, g.times(less, more), "1:0,0,2,0,0 -1:0,0,0,0,0");
    dueText("(x + 1)(x + 1)", g, g.times(more, more), "1:0,0,2,0,0 2:0,0,1,0,0 1:0,0,0,0,0");
    int zero = g.number(0, 1);
    dueText("0 times", g, g.times(zero, more), "");
    dueText("times 0", g, g.times(more, zero), "");
    dueText("2/3 times 3/4", g, g.times(g.number(2, 3), g.number(3, 4)), "1/2:0,0,0,0,0");
    int mixed = make(g, 2, 3, 1, -2, 3, -4, 5);
    int other = make(g, -3, 4, 1, 1, 1, 1, -5);
    dueText("all exponents", g, g.times(mixed, other), "-1/2:2,-1,4,-3,0");
    refused("times(-1, 0)", INDEX, () -> g.times(-1, 0));
    refused("times(0, count)", INDEX, () -> g.times(0, g.count()));
    timesTooGreat();
    timesOnTheWay();
  }

  private static void timesTooGreat() {
    for (int kind = 0; kind < 5; kind++) {
      GrowthLimits g = new GrowthLimits();
      int most = power(g, kind, 99);
      due("99th power", g.term(most, 0, kind), 99);
      int letter = g.letter(kind);
      refused("100th power", STATE, () -> g.times(most, letter));
      int least = g.over(g.number(1, 1), most);
      due("-99th power", g.term(least, 0, kind), -99);
      int under = g.over(g.number(1, 1), letter);
      refused("-100th power", STATE, () -> g.times(least, under));
      dueText("99 - 99", g, g.times(most, least), "1:0,0,0,0,0");
    }
    GrowthLimits g = new GrowthLimits();
    int thousand = g.number(1000, 1);
    dueText("1000 times 1000", g, g.times(thousand, thousand), "1000000:0,0,0,0,0");
    int bit = g.number(1001, 1);
    refused("1000 times 1001", STATE, () -> g.times(thousand, bit));
    int part = g.number(1, 1001);
    int small = g.number(1, 1000);
    refused("1/1000 times 1/1001", STATE, () -> g.times(small, part));
    int most = g.number(-1000000, 1);
    int least = g.number(1, 1000000);
    dueText("lowest terms first", g, g.times(most, least), "-1:0,0,0,0,0");
    refused("a great square", STATE, () -> g.times(most, most));
    refused("a small square", STATE, () -> g.times(least, least));
  }

  /** More than ten TERMS on the way are fine, but not in the end. */
  private static void timesOnTheWay() {
    GrowthLimits g = new GrowthLimits();
    int ten = powers(g, 10);
    int x = g.letter(2);
    int factor = g.add(x, g.number(-1, 1));
    dueText("a sum of powers and x - 1", g, g.times(ten, factor), "1:0,0,10,0,0 -1:0,0,0,0,0");
    dueText("x - 1 and a sum of powers", g, g.times(factor, ten), "1:0,0,10,0,0 -1:0,0,0,0,0");
    refused("nineteen terms", STATE, () -> g.times(ten, ten));
    int more = g.add(x, g.number(1, 1));
    refused("eleven terms", STATE, () -> g.times(ten, more));
    GrowthLimits h = new GrowthLimits();
    int byX = powers(h, 10);
    int byLog = h.number(1, 1);
    int log = h.letter(3);
    int one = h.number(1, 1);
    for (int i = 1; i < 10; i++) {
      byLog = h.add(h.times(byLog, log), one);
    }
    int last = byLog;
    refused("a hundred terms", STATE, () -> h.times(byX, last));
    due("after a hundred terms", h.terms(h.add(byX, byX)), 10);
    numberOnTheWay();
  }

  /** A NUMBER that is too great on the way refuses, though later TERMS would make it less. */
  private static void numberOnTheWay() {
    GrowthLimits g = new GrowthLimits();
    int x = g.letter(2);
    int square = g.times(x, x);
    int cube = g.times(square, x);
    int great = g.number(600000, 1);
    int left = g.add(g.add(g.times(great, cube), g.times(great, x)), g.number(-600000, 1));
    int right = g.add(g.add(cube, square), g.number(1, 1));
    // three products fall on x x x and on nothing else: 600000, 600000, -600000
    refused("added on the way", STATE, () -> g.times(left, right));
    due("added the other way round", g.terms(g.times(right, left)), 7);
  }

  private static void promise6Over() {
    GrowthLimits g = new GrowthLimits();
    int x = g.letter(2);
    int sum = g.add(x, g.number(1, 2));
    int by = make(g, -3, 2, 1, -1, 2, -2, 3);
    dueText("(x + 1/2) through a term", g, g.over(sum, by), "-2/3:-1,1,-1,2,-3 -1/3:-1,1,-2,2,-3");
    int zero = g.number(0, 1);
    dueText("0 through x", g, g.over(zero, x), "");
    int before = g.count();
    due("through two terms", g.over(x, sum), -1);
    due("through 0", g.over(x, zero), -1);
    due("0 through 0", g.over(zero, zero), -1);
    due("-1 makes none", g.count(), before);
    dueText("x through x", g, g.over(x, x), "1:0,0,0,0,0");
    refused("over(-1, 0)", INDEX, () -> g.over(-1, 0));
    refused("over(0, -1)", INDEX, () -> g.over(0, -1));
    refused("over(0, count)", INDEX, () -> g.over(0, g.count()));
    refused("over(count, two terms)", INDEX, () -> g.over(g.count(), sum));
    int great = g.number(1000000, 1);
    int small = g.number(1, 2);
    refused("1000000 through 1/2", STATE, () -> g.over(great, small));
    refused("1/2 through 1000000", STATE, () -> g.over(small, great));
    int most = power(g, 2, 99);
    int under = g.over(g.number(1, 1), x);
    refused("99th power through -1st", STATE, () -> g.over(most, under));
  }

  private static void promise7Derive() {
    GrowthLimits g = new GrowthLimits();
    String[] want = {
      "2:1,0,1,0,0", "1:0,1,0,0,0", "1:0,0,0,0,0", "1:0,0,-1,0,0", "1:0,0,-1,-1,0"
    };
    for (int kind = 0; kind < 5; kind++) {
      dueText("slope of letter " + kind, g, g.derive(g.letter(kind)), want[kind]);
    }
    dueText("slope of a number", g, g.derive(g.number(7, 3)), "");
    dueText("slope of 0", g, g.derive(g.number(0, 3)), "");
    dueText("slope of all", g, g.derive(make(g, 1, 2, 1, 3, 5, 7, 9)),
        "1:1,3,6,7,9 3/2:1,3,5,7,9 5/2:1,3,4,7,9 7/2:1,3,4,6,9 9/2:1,3,4,6,8");
    GrowthLimits h = new GrowthLimits();
    int e = h.letter(1);
    int x = h.letter(2);
    int both = h.add(h.times(e, x), h.times(h.number(-1, 1), e));
    dueText("parts that go", h, h.derive(both), "1:0,1,1,0,0");
    int ten = powers(h, 10);
    h.letter(0);
    due("slope of ten terms", h.terms(h.derive(ten)), 9);
    refused("derive(-1)", INDEX, () -> h.derive(-1));
    refused("derive(count)", INDEX, () -> h.derive(h.count()));
    deriveTooGreat();
  }

  private static void deriveTooGreat() {
    GrowthLimits g = new GrowthLimits();
    int most = power(g, 2, 99);
    dueText("slope of the 99th power", g, g.derive(most), "99:0,0,98,0,0");
    int square = g.letter(0);
    int up = g.times(most, square);
    refused("x more than 99", STATE, () -> g.derive(up));
    int least = g.over(g.number(1, 1), most);
    refused("x less than -99", STATE, () -> g.derive(least));
    GrowthLimits h = new GrowthLimits();
    int leastLog = power(h, 3, -99);
    refused("L less than -99", STATE, () -> h.derive(leastLog));
    int e = h.letter(1);
    int loose = h.times(e, h.over(h.number(1, 1), power(h, 4, 99)));
    refused("M less than -99", STATE, () -> h.derive(loose));
    GrowthLimits i = new GrowthLimits();
    int great = i.times(i.number(600000, 1), i.letter(0));
    refused("2 p too great", STATE, () -> i.derive(great));
    int less = i.times(i.number(500000, 1), i.letter(0));
    dueText("2 p great", i, i.derive(less), "1000000:1,0,1,0,0");
    int part = i.times(i.number(600001, 2), i.letter(0));
    dueText("2 p in lowest terms", i, i.derive(part), "600001:1,0,1,0,0");
    int sum = i.letter(2);
    int many = i.number(0, 1);
    for (int k = 0; k < 3; k++) {
      sum = i.times(sum, i.letter(k % 2));
      many = i.add(many, i.times(sum, i.times(i.letter(3), i.letter(4))));
    }
    int wide = many;
    refused("more than ten terms", STATE, () -> i.derive(wide));
  }

  private static void promise8Logarithm() {
    GrowthLimits g = new GrowthLimits();
    String[] want = {"1:0,0,2,0,0", "1:0,0,1,0,0", "1:0,0,0,1,0", "1:0,0,0,0,1"};
    for (int kind = 0; kind < 4; kind++) {
      dueText("logarithm of letter " + kind, g, g.logarithm(g.letter(kind)), want[kind]);
    }
    dueText("logarithm of a term", g, g.logarithm(make(g, 1, 1, -3, 99, -99, 1, 0)),
        "-3:0,0,2,0,0 99:0,0,1,0,0 -99:0,0,0,1,0 1:0,0,0,0,1");
    int one = g.number(1, 1);
    dueText("logarithm of 1", g, g.logarithm(one), "");
    int x = g.letter(2);
    int before = g.count();
    due("logarithm of M", g.logarithm(g.letter(4)), -1);
    due("logarithm of 2 x", g.logarithm(g.add(x, x)), -1);
    due("logarithm of -x", g.logarithm(g.times(g.number(-1, 1), x)), -1);
    due("logarithm of x/2", g.logarithm(g.times(g.number(1, 2), x)), -1);
    due("logarithm of 0", g.logarithm(g.number(0, 1)), -1);
    due("logarithm of x + 1", g.logarithm(g.add(x, one)), -1);
    due("logarithm of x/M", g.logarithm(g.over(x, g.letter(4))), -1);
    due("-1 makes none", g.count(), before + 10);
    refused("logarithm(-1)", INDEX, () -> g.logarithm(-1));
    refused("logarithm(count)", INDEX, () -> g.logarithm(g.count()));
  }

  private static void promise9Exponential() {
    GrowthLimits g = new GrowthLimits();
    int x = g.letter(2);
    int log = g.letter(3);
    int loglog = g.letter(4);
    int square = g.times(x, x);
    dueText("e to x x", g, g.exponential(square), "1:1,0,0,0,0");
    dueText("e to x", g, g.exponential(x), "1:0,1,0,0,0");
    dueText("e to L", g, g.exponential(log), "1:0,0,1,0,0");
    dueText("e to M", g, g.exponential(loglog), "1:0,0,0,1,0");
    dueText("e to 0", g, g.exponential(g.number(0, 1)), "1:0,0,0,0,0");
    int most = g.number(99, 1);
    int least = g.number(-99, 1);
    int sum = g.add(g.add(g.times(most, square), g.times(least, x)),
        g.add(g.times(most, log), g.times(least, loglog)));
    dueText("e to a sum", g, g.exponential(sum), "1:99,-99,99,-99,0");
    int before = g.count();
    due("e to 100 x", g.exponential(g.times(g.number(100, 1), x)), -1);
    due("e to -100 x", g.exponential(g.times(g.number(-100, 1), x)), -1);
    due("e to x/2", g.exponential(g.times(g.number(1, 2), x)), -1);
    due("e to 1", g.exponential(g.number(1, 1)), -1);
    due("e to x x x", g.exponential(g.times(square, x)), -1);
    due("e to L L", g.exponential(g.times(log, log)), -1);
    due("e to M M", g.exponential(g.times(loglog, loglog)), -1);
    due("e to x L", g.exponential(g.times(x, log)), -1);
    due("e to x M", g.exponential(g.times(x, loglog)), -1);
    due("e to L M", g.exponential(g.times(log, loglog)), -1);
    due("e to e to x", g.exponential(g.letter(1)), -1);
    due("e to e to x x", g.exponential(g.letter(0)), -1);
    due("e to x + 1", g.exponential(g.add(x, g.number(1, 1))), -1);
    due("e to 1/x", g.exponential(g.over(g.number(1, 1), x)), -1);
    due("-1 makes none", g.count(), before + 19);
    refused("exponential(-1)", INDEX, () -> g.exponential(-1));
    refused("exponential(count)", INDEX, () -> g.exponential(g.count()));
    exponentialOfOtherLetters();
  }

  private static void exponentialOfOtherLetters() {
    GrowthLimits g = new GrowthLimits();
    int square = g.times(g.letter(2), g.letter(2));
    due("e to x x times e to x", g.exponential(g.times(square, g.letter(1))), -1);
    due("e to x x times e to x x", g.exponential(g.times(square, g.letter(0))), -1);
    due("e to M times e to -x", g.exponential(g.over(g.letter(4), g.letter(1))), -1);
    due("e to L times e to -x x", g.exponential(g.over(g.letter(3), g.letter(0))), -1);
  }

  private static void promise10Terms() {
    GrowthLimits g = new GrowthLimits();
    due("terms of 0", g.terms(g.number(0, 1)), 0);
    due("terms of 1", g.terms(g.number(1, 1)), 1);
    due("terms of ten", g.terms(powers(g, 10)), 10);
    refused("terms(-1)", INDEX, () -> g.terms(-1));
    refused("terms(count)", INDEX, () -> g.terms(g.count()));
    refused("terms(80)", INDEX, () -> g.terms(80));
    refused("terms(least)", INDEX, () -> g.terms(Integer.MIN_VALUE));
    refused("terms(greatest)", INDEX, () -> g.terms(Integer.MAX_VALUE));
  }

  private static void promise11Term() {
    GrowthLimits g = new GrowthLimits();
    int f = make(g, -5, 7, 2, -3, 4, -6, 8);
    int[] want = {2, -3, 4, -6, 8, -5, 7};
    for (int what = 0; what < 7; what++) {
      due("term(f, 0, " + what + ")", g.term(f, 0, what), want[what]);
    }
    int two = g.add(f, g.letter(0));
    due("the highest first", g.term(two, 0, 0), 2);
    due("then the next", g.term(two, 1, 0), 1);
    refused("term(f, 1, 0)", ARGUMENT, () -> g.term(f, 1, 0));
    refused("term(f, -1, 0)", ARGUMENT, () -> g.term(f, -1, 0));
    refused("term(f, least, 0)", ARGUMENT, () -> g.term(f, Integer.MIN_VALUE, 0));
    refused("term(f, greatest, 0)", ARGUMENT, () -> g.term(f, Integer.MAX_VALUE, 0));
    refused("term(f, 0, 7)", ARGUMENT, () -> g.term(f, 0, 7));
    refused("term(f, 0, -1)", ARGUMENT, () -> g.term(f, 0, -1));
    refused("term(f, 0, greatest)", ARGUMENT, () -> g.term(f, 0, Integer.MAX_VALUE));
    refused("term(-1, 0, 0)", INDEX, () -> g.term(-1, 0, 0));
    refused("term(count, 99, 99)", INDEX, () -> g.term(g.count(), 99, 99));
  }

  private static void promise12Limit() {
    GrowthLimits g = new GrowthLimits();
    int minus = g.number(-1, 1);
    int one = g.number(1, 1);
    for (int kind = 0; kind < 5; kind++) {
      int letter = g.letter(kind);
      due("limit of letter " + kind, g.limit(letter), 1);
      due("limit of minus letter " + kind, g.limit(g.times(minus, letter)), -1);
      due("limit of 1 through letter " + kind, g.limit(g.over(one, letter)), 0);
      due("limit of -1 through letter " + kind, g.limit(g.over(minus, letter)), 0);
    }
    due("limit of 0", g.limit(g.number(0, 1)), 0);
    due("limit of -1", g.limit(minus), 0);
    due("limit of M x x e^-x", g.limit(make(g, 1, 1, 0, -1, 2, 0, 1)), 0);
    due("limit of e^(x x) e^(-9 x)", g.limit(make(g, -1, 1, 1, -9, 0, 0, 0)), -1);
    refused("limit(-1)", INDEX, () -> g.limit(-1));
    refused("limit(count)", INDEX, () -> g.limit(g.count()));
    GrowthLimits h = new GrowthLimits();
    int x = h.letter(2);
    int sum = h.add(h.times(h.number(-1, 1000000), x), h.times(h.number(1000000, 1), h.letter(3)));
    due("the highest decides", h.limit(sum), -1);
    due("a number and less", h.limit(h.add(h.number(5, 1), h.over(h.number(-1, 1), x))), 0);
  }

  private static void promise13Value() {
    GrowthLimits g = new GrowthLimits();
    int x = g.letter(2);
    int under = g.over(g.number(1, 1), x);
    int near = g.add(g.number(-4, 6), under);
    due("value above", g.value(near, 0), -2);
    due("value below", g.value(near, 1), 3);
    due("0 above", g.value(under, 0), 0);
    due("0 below", g.value(under, 1), 1);
    int alone = g.number(3, -4);
    due("of a number, above", g.value(alone, 0), -3);
    due("of a number, below", g.value(alone, 1), 4);
    int zero = g.number(0, 5);
    due("of 0, above", g.value(zero, 0), 0);
    due("of 0, below", g.value(zero, 1), 1);
    int minus = g.times(g.number(-1, 1), x);
    refused("value of x", STATE, () -> g.value(x, 0));
    refused("value of -x", STATE, () -> g.value(minus, 1));
    refused("value of x, part 2", STATE, () -> g.value(x, 2));
    refused("value, part 2", ARGUMENT, () -> g.value(near, 2));
    refused("value, part -1", ARGUMENT, () -> g.value(near, -1));
    refused("value of 0, part 2", ARGUMENT, () -> g.value(zero, 2));
    refused("value(-1, 2)", INDEX, () -> g.value(-1, 2));
    refused("value(count, 0)", INDEX, () -> g.value(g.count(), 0));
  }

  private static void promise14Compare() {
    GrowthLimits g = new GrowthLimits();
    for (int kind = 0; kind < 5; kind++) {
      g.letter(kind);
    }
    int one = g.number(-3, 1);
    int under = g.over(one, 4);
    int zero = g.number(0, 1);
    for (int a = 0; a <= zero; a++) {
      for (int b = 0; b <= zero; b++) {
        due("compare(" + a + ", " + b + ")", g.compare(a, b), Integer.compare(b, a));
      }
    }
    due("handles fell", under, 6);
    int other = g.add(g.times(one, 2), 3);
    due("the same highest", g.compare(other, 2), 0);
    due("two that are 0", g.compare(zero, g.number(0, 2)), 0);
    refused("compare(-1, 0)", INDEX, () -> g.compare(-1, 0));
    refused("compare(0, -1)", INDEX, () -> g.compare(0, -1));
    refused("compare(count, 0)", INDEX, () -> g.compare(g.count(), 0));
    refused("compare(0, count)", INDEX, () -> g.compare(0, g.count()));
  }

  private static void promise15Ratio() {
    GrowthLimits g = new GrowthLimits();
    int x = g.letter(2);
    int a = g.add(g.times(g.number(6, 5), x), g.number(1, 1));
    int b = g.add(g.times(g.number(-4, 15), x), g.letter(3));
    due("ratio above", g.ratio(a, b, 0), -9);
    due("ratio below", g.ratio(a, b, 1), 2);
    due("turned over, above", g.ratio(b, a, 0), -2);
    due("turned over, below", g.ratio(b, a, 1), 9);
    due("both below 0, above", g.ratio(b, b, 0), 1);
    due("both below 0, below", g.ratio(b, b, 1), 1);
    int great = g.number(1000000, 999999);
    int small = g.number(-999997, 999998);
    due("great above", g.ratio(great, small, 0), -999998000000L);
    due("great below", g.ratio(great, small, 1), 999996000003L);
    int most = g.number(-1000000, 1);
    int least = g.number(1, 1000000);
    due("greatest above", g.ratio(most, least, 0), -1000000000000L);
    due("greatest below", g.ratio(least, most, 1), 1000000000000L);
    int zero = g.number(0, 1);
    refused("ratio of 0 and 0", STATE, () -> g.ratio(zero, zero, 0));
    refused("ratio of 0 and x", STATE, () -> g.ratio(zero, x, 0));
    refused("ratio of x and 0", STATE, () -> g.ratio(x, zero, 0));
    refused("ratio of x and 1", STATE, () -> g.ratio(x, least, 0));
    refused("ratio of 1 and x", STATE, () -> g.ratio(least, x, 1));
    refused("ratio of 1 and x, part 2", STATE, () -> g.ratio(least, x, 2));
    refused("ratio, part 2", ARGUMENT, () -> g.ratio(a, b, 2));
    refused("ratio, part -1", ARGUMENT, () -> g.ratio(a, b, -1));
    refused("ratio(-1, 0, 2)", INDEX, () -> g.ratio(-1, 0, 2));
    refused("ratio(0, count, 2)", INDEX, () -> g.ratio(0, g.count(), 2));
  }

  private static void promise16Sign() {
    GrowthLimits g = new GrowthLimits();
    int x = g.letter(2);
    due("sign of x", g.sign(x), 1);
    due("sign of 0", g.sign(g.number(0, 1)), 0);
    due("sign of -1/2", g.sign(g.number(1, -2)), -1);
    int under = g.over(g.number(-1, 1), x);
    due("sign of -1/x", g.sign(under), -1);
    due("sign of 1 - 1/x", g.sign(g.add(g.number(1, 1000), under)), 1);
    due("sign of L - x", g.sign(g.add(g.letter(3), g.times(g.number(-1, 1), x))), -1);
    refused("sign(-1)", INDEX, () -> g.sign(-1));
    refused("sign(count)", INDEX, () -> g.sign(g.count()));
  }

  private static void promise17Same() {
    GrowthLimits g = new GrowthLimits();
    int x = g.letter(2);
    int one = g.number(1, 1);
    int a = g.add(x, one);
    int b = g.add(one, x);
    due("same, made otherwise", g.same(a, b) ? 1 : 0, 1);
    due("fewer terms", g.same(a, x) ? 1 : 0, 0);
    due("more terms", g.same(x, a) ? 1 : 0, 0);
    due("another number", g.same(a, g.add(x, g.number(2, 1))) ? 1 : 0, 0);
    due("another part below", g.same(g.number(1, 2), g.number(1, 3)) ? 1 : 0, 0);
    due("another sign", g.same(one, g.number(-1, 1)) ? 1 : 0, 0);
    due("two that are 0", g.same(g.number(0, 1), g.number(0, 9)) ? 1 : 0, 1);
    due("0 and 1", g.same(g.number(0, 1), one) ? 1 : 0, 0);
    for (int kind = 0; kind < 5; kind++) {
      due("letter and 1", g.same(g.letter(kind), one) ? 1 : 0, 0);
    }
    int ten = powers(g, 10);
    int again = g.add(ten, g.number(0, 1));
    g.letter(0);
    due("ten terms", g.same(ten, again) ? 1 : 0, 1);
    due("ten terms and twice them", g.same(ten, g.add(ten, ten)) ? 1 : 0, 0);
    refused("same(-1, 0)", INDEX, () -> g.same(-1, 0) ? 1 : 0);
    refused("same(0, -1)", INDEX, () -> g.same(0, -1) ? 1 : 0);
    refused("same(0, count)", INDEX, () -> g.same(0, g.count()) ? 1 : 0);
  }

  private static void promise18Fastest() {
    GrowthLimits g = new GrowthLimits();
    g.number(0, 1);
    g.letter(3);
    g.letter(2);
    g.times(g.number(-2, 1), 2);
    g.letter(1);
    due("of none", g.fastest(0), -1);
    due("of 0 alone", g.fastest(1), 0);
    due("of 0 and L", g.fastest(3), 1);
    due("lowest of two alike", g.fastest(0b11110), 2);
    due("the same without the lowest", g.fastest(0b11010), 4);
    due("of all", g.fastest(0b111111), 5);
    refused("a bit too high", ARGUMENT, () -> g.fastest(0b1000000));
    refused("a bit too high among others", ARGUMENT, () -> g.fastest(0b1000001));
    refused("the highest bit", ARGUMENT, () -> g.fastest(Integer.MIN_VALUE));
    refused("all bits", ARGUMENT, () -> g.fastest(-1));
    while (g.count() < 31) {
      g.letter(3);
    }
    refused("all bits, one is missing", ARGUMENT, () -> g.fastest(-1));
    due("all but the highest bit", g.fastest(Integer.MAX_VALUE), 5);
    g.letter(0);
    due("all bits", g.fastest(-1), 31);
    due("the highest bit alone", g.fastest(Integer.MIN_VALUE), 31);
    GrowthLimits h = new GrowthLimits();
    h.number(0, 1);
    h.number(0, 1);
    due("of two that are 0", h.fastest(3), 0);
    due("of the second 0", h.fastest(2), 1);
  }

  private static void promise19Count() {
    GrowthLimits g = new GrowthLimits();
    g.letter(2);
    g.number(0, 1);
    due("count", g.count(), 2);
    g.add(0, 1);
    g.times(0, 1);
    g.over(1, 0);
    g.derive(0);
    g.logarithm(0);
    g.exponential(0);
    due("count of each kind", g.count(), 8);
    g.over(0, 1);
    refused("no function", INDEX, () -> g.add(0, 8));
    due("count after none", g.count(), 8);
    fill(g);
    due("count of most", g.count(), 80);
  }

  /** With 80 functions there is no room, but an exception that stands first still comes first. */
  private static void fullObject() {
    GrowthLimits g = new GrowthLimits();
    g.letter(2);
    g.number(0, 1);
    while (g.count() < 79) {
      g.letter(2);
    }
    due("the 80th", g.letter(1), 79);
    refused("full number", STATE, () -> g.number(1, 1));
    refused("full number of 0", STATE, () -> g.number(0, 1));
    refused("full number(1, 0)", ARITHMETIC, () -> g.number(1, 0));
    refused("full letter", STATE, () -> g.letter(1));
    refused("full letter(5)", ARGUMENT, () -> g.letter(5));
    refused("full add", STATE, () -> g.add(0, 0));
    refused("full add(80, 0)", INDEX, () -> g.add(80, 0));
    refused("full times", STATE, () -> g.times(0, 0));
    refused("full times(0, -1)", INDEX, () -> g.times(0, -1));
    refused("full over", STATE, () -> g.over(0, 0));
    refused("full over 0", STATE, () -> g.over(0, 1));
    refused("full over(0, 80)", INDEX, () -> g.over(0, 80));
    refused("full derive", STATE, () -> g.derive(0));
    refused("full derive(80)", INDEX, () -> g.derive(80));
    refused("full logarithm", STATE, () -> g.logarithm(0));
    refused("full logarithm of 0", STATE, () -> g.logarithm(1));
    refused("full logarithm(80)", INDEX, () -> g.logarithm(80));
    refused("full exponential", STATE, () -> g.exponential(0));
    refused("full exponential of e to x", STATE, () -> g.exponential(79));
    refused("full exponential(80)", INDEX, () -> g.exponential(80));
    due("full count", g.count(), 80);
    due("full compare", g.compare(79, 0), 1);
    due("full value", g.value(1, 1), 1);
    dueText("the last one", g, 79, "1:0,1,0,0,0");
  }

  /** The boundary tests look at every function behind every refused call; here it is one. */
  private static void refusedCallsChangeNothing() {
    GrowthLimits g = new GrowthLimits();
    int ten = powers(g, 10);
    int count = g.count();
    String before = text(g, ten);
    refused("too many terms", STATE, () -> g.times(ten, ten));
    refused("too great a number", STATE, () -> g.number(1, 1000001));
    refused("no such kind", ARGUMENT, () -> g.letter(5));
    refused("no such function", INDEX, () -> g.add(ten, count));
    due("a quotient that isn't there", g.over(ten, ten), -1);
    dueText("nothing changed", g, ten, before);
    due("the next handle", g.letter(4), count);
    dueText("the next one", g, count, "1:0,0,0,0,1");
  }
}
