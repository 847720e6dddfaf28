/** The boundaries that promises 1 to 9 name, a test for each sentence. */
public final class MakersBoundaryTest {
  private static final int LEAST = Integer.MIN_VALUE;
  private static final int GREATEST = Integer.MAX_VALUE;

  public static void main(String[] args) {
    Sentences s = new Sentences();
    s.holds("1: No functions", MakersBoundaryTest::noFunctions);
    s.holds("2: a number", MakersBoundaryTest::aNumber);
    s.holds("2: or 0", MakersBoundaryTest::orZero);
    s.holds("2: ArithmeticException: below is 0", MakersBoundaryTest::belowIsZero);
    s.holds("3: 0 .. 4, each its letter", MakersBoundaryTest::letters);
    s.holds("3: IllegalArgumentException: another kind", MakersBoundaryTest::anotherKind);
    s.holds("4: a sum, of 0 too", MakersBoundaryTest::sums);
    s.holds("5: a product, of 0 and of 1 too", MakersBoundaryTest::products);
    s.holds("6: b having one TERM: a times that turned over", MakersBoundaryTest::turnedOver);
    s.holds("6: -1 if b hasn't one", MakersBoundaryTest::throughNotOne);
    s.holds("6: a of no TERM, of one, of 10", MakersBoundaryTest::whatIsDivided);
    s.holds("7: the slope of a number, of 0", MakersBoundaryTest::slopesOfNumbers);
    s.holds("8: one TERM", MakersBoundaryTest::logarithmOfOneTerm);
    s.holds("8: with the NUMBER 1", MakersBoundaryTest::logarithmOfNumberOne);
    s.holds("8: and d 0", MakersBoundaryTest::logarithmWithoutM);
    s.holds("8: p x x, q x, a L, b M as one sum", MakersBoundaryTest::logarithmAsOneSum);
    s.holds("8: those of 0 left out", MakersBoundaryTest::logarithmLeavesOut);
    s.holds("9: multiples, -99 .. 99", MakersBoundaryTest::multiples);
    s.holds("9: whole multiples", MakersBoundaryTest::wholeMultiples);
    s.holds("9: of x x, x, L, M", MakersBoundaryTest::multiplesOfLetters);
    s.holds("9: a sum of none, of one, of all four", MakersBoundaryTest::sumsOfMultiples);
    s.holds("9: -1 if one TERM of the sum is another", MakersBoundaryTest::oneAmongOthers);
    s.holds("8, 9: each turns the other over", MakersBoundaryTest::thereAndBack);
    s.end();
  }

  private static void noFunctions() {
    Run r = new Run();
    r.due(0, "count");
    r.due(-1, "fastest", 0);
    r.refused(Run.ARGUMENT, "fastest", 1);
    r.refused(Run.ARGUMENT, "fastest", LEAST);
    r.refused(Run.INDEX, "terms", 0);
    r.refused(Run.INDEX, "derive", 0);
    r.refused(Run.INDEX, "add", 0, 0);
    r.due(0, "letter", 0);
    // another new object has none, whatever is made beside it
    new Run().due(0, "count");
    r.due(1, "count");
  }

  private static void aNumber() {
    Run r = new Run();
    r.makes("1:0,0,0,0,0", "number", 1, 1);
    r.makes("-1:0,0,0,0,0", "number", -1, 1);
    r.makes("-1:0,0,0,0,0", "number", 1, -1);
    r.makes("1:0,0,0,0,0", "number", -1, -1);
    r.makes("1000000/999999:0,0,0,0,0", "number", 1000000, 999999);
    r.makes("-999999/1000000:0,0,0,0,0", "number", 999999, -1000000);
    r.makes("1000:0,0,0,0,0", "number", 2147483000, 2147483);
  }

  private static void orZero() {
    Run r = new Run();
    for (int below : new int[] {1, -1, 1000000, 1000001, -1000001, GREATEST, LEAST}) {
      r.makes("", "number", 0, below);
    }
    r.makes("1:0,0,0,0,0", "number", 1, 1);
    r.makes("-1:0,0,0,0,0", "number", -1, 1);
  }

  private static void belowIsZero() {
    Run r = new Run();
    r.make("letter", 2);
    for (int above : new int[] {0, 1, -1, 1000000, 1000001, GREATEST, LEAST}) {
      r.refused(Run.ARITHMETIC, "number", above, 0);
    }
    r.makes("5:0,0,0,0,0", "number", 5, 1);
    r.makes("-5:0,0,0,0,0", "number", 5, -1);
  }

  private static void letters() {
    Run r = new Run();
    r.makes("1:1,0,0,0,0", "letter", 0);
    r.makes("1:0,1,0,0,0", "letter", 1);
    r.makes("1:0,0,1,0,0", "letter", 2);
    r.makes("1:0,0,0,1,0", "letter", 3);
    r.makes("1:0,0,0,0,1", "letter", 4);
    r.makes("1:1,0,0,0,0", "letter", 0);
  }

  private static void anotherKind() {
    Run r = new Run();
    r.make("letter", 4);
    for (int kind : new int[] {5, -1, 6, 7, -2, GREATEST, LEAST}) {
      r.refused(Run.ARGUMENT, "letter", kind);
    }
    Run none = new Run();
    none.refused(Run.ARGUMENT, "letter", 5);
    none.refused(Run.ARGUMENT, "letter", -1);
  }

  private static void sums() {
    Run r = new Run();
    int zero = r.number(0, 1);
    r.makes("", "add", zero, zero);
    r.makes("1:0,0,1,0,0", "add", zero, r.x());
    r.makes("1:0,0,1,0,0", "add", r.x(), zero);
    r.makes("2:0,0,1,0,0", "add", r.x(), r.x());
    r.makes("1:0,0,1,0,0 1:0,0,0,1,0", "add", r.x(), r.letter(3));
    r.makes("1:0,0,1,0,0 1:0,0,0,1,0", "add", r.letter(3), r.x());
    r.reads(r.x(), "1:0,0,1,0,0");
    r.reads(zero, "");
    // what is made of ten TERMS beside others leaves those as they are
    int ten = r.powersOfX(10);
    r.make("letter", 4);
    int twice = r.make("add", ten, ten);
    r.makes("1:0,0,0,0,1", "add", r.letter(4), zero);
    r.due(2, "term", twice, 9, 5);
    r.due(1, "term", ten, 9, 5);
  }

  private static void products() {
    Run r = new Run();
    int zero = r.number(0, 1);
    r.makes("", "times", zero, zero);
    r.makes("", "times", zero, r.x());
    r.makes("", "times", r.x(), zero);
    r.makes("1:0,0,1,0,0", "times", r.x(), r.whole(1));
    r.makes("1:0,0,1,0,0", "times", r.whole(1), r.x());
    r.makes("-1:0,0,1,0,0", "times", r.whole(-1), r.x());
    r.makes("1:0,0,2,0,0", "times", r.x(), r.x());
    int ten = r.powersOfX(10);
    r.makes("", "times", ten, zero);
    r.makes("", "times", zero, ten);
    r.due(1, "same", ten, r.make("times", ten, r.whole(1)));
    r.due(1, "same", ten, r.make("times", r.whole(1), ten));
    r.reads(r.x(), "1:0,0,1,0,0");
  }

  private static void turnedOver() {
    Run r = new Run();
    r.makes("-3/2:-1,2,-3,4,-5", "over", r.whole(1), r.one(-2, 3, 1, -2, 3, -4, 5));
    r.makes("1:0,0,0,0,0", "over", r.x(), r.x());
    r.makes("-1:0,0,0,0,0", "over", r.one(-1, 1, 0, 0, 1), r.x());
    r.makes("-1:0,0,0,0,0", "over", r.x(), r.one(-1, 1, 0, 0, 1));
    int sum = r.sum(r.x(), r.number(1, 2));
    r.makes("-2:0,0,2,0,0 -1:0,0,1,0,0", "over", sum, r.one(-1, 2, 0, 0, -1));
    r.makes("1:0,0,1,0,0", "over", r.x(), r.whole(1));
  }

  private static void throughNotOne() {
    Run r = new Run();
    int zero = r.number(0, 1);
    int two = r.make("add", r.x(), r.whole(1));
    int ten = r.powersOfX(10);
    for (int a : new int[] {zero, r.x(), two, ten}) {
      r.makesNone("over", a, zero);
      r.makesNone("over", a, two);
      r.makesNone("over", a, ten);
      r.make("over", a, r.x());
    }
    // one that was of two TERMS before one went
    int back = r.make("add", two, r.whole(-1));
    r.makes("1:0,0,0,0,0", "over", r.x(), back);
    // TOO GREAT it would be, were it made
    int great = r.make("add", r.one(1, 1000000, 0, 0, 1), r.number(1, 1000000));
    r.makesNone("over", r.whole(1000000), great);
    r.makesNone("over", r.whole(1000000), zero);
  }

  private static void whatIsDivided() {
    Run r = new Run();
    r.makes("", "over", r.number(0, 1), r.x());
    r.makes("", "over", r.number(0, 1), r.one(1000000, 1, 99));
    r.makes("1/2:0,0,0,0,0", "over", r.whole(1), r.whole(2));
    int ten = r.powersOfX(10);
    int through = r.make("over", ten, r.whole(-2));
    r.due(10, "terms", through);
    for (int k = 0; k < 10; k++) {
      r.due(9 - k, "term", through, k, 2);
      r.due(-1, "term", through, k, 5);
      r.due(2, "term", through, k, 6);
    }
  }

  private static void slopesOfNumbers() {
    Run r = new Run();
    r.makes("", "derive", r.number(0, 1));
    r.makes("", "derive", r.whole(1000000));
    r.makes("", "derive", r.number(-1, 1000000));
    r.makes("1:0,0,0,0,0", "derive", r.make("add", r.x(), r.whole(1000000)));
    int first = r.make("derive", r.x());
    r.makes("", "derive", first);
  }

  private static void logarithmOfOneTerm() {
    Run r = new Run();
    r.makes("1:0,0,0,1,0", "logarithm", r.x());
    r.makesNone("logarithm", r.number(0, 1));
    r.makesNone("logarithm", r.make("add", r.x(), r.whole(1)));
    r.makesNone("logarithm", r.make("add", r.x(), r.one(1, 1000000, -99)));
    r.makesNone("logarithm", r.powersOfX(10));
  }

  private static void logarithmOfNumberOne() {
    Run r = new Run();
    r.makes("1:0,0,0,1,0", "logarithm", r.one(1, 1, 0, 0, 1));
    r.makesNone("logarithm", r.one(2, 1, 0, 0, 1));
    r.makesNone("logarithm", r.one(-1, 1, 0, 0, 1));
    r.makesNone("logarithm", r.one(1, 2, 0, 0, 1));
    r.makesNone("logarithm", r.one(-1, 2, 0, 0, 1));
    r.makesNone("logarithm", r.one(1000000, 999999, 0, 0, 1));
    r.makesNone("logarithm", r.one(999999, 1000000, 0, 0, 1));
    r.makes("", "logarithm", r.whole(1));
    r.makesNone("logarithm", r.whole(2));
    r.makesNone("logarithm", r.whole(-1));
    r.makesNone("logarithm", r.number(1, 2));
    r.makes("", "logarithm", r.make("number", 7, 7));
  }

  private static void logarithmWithoutM() {
    Run r = new Run();
    r.makesNone("logarithm", r.letter(4));
    r.makesNone("logarithm", r.power(4, -1));
    r.makesNone("logarithm", r.power(4, 2));
    r.makesNone("logarithm", r.one(1, 1, 1, 1, 1, 1, 1));
    r.makesNone("logarithm", r.one(1, 1, 1, 1, 1, 1, -1));
    r.makes("1:0,0,2,0,0 1:0,0,1,0,0 1:0,0,0,1,0 1:0,0,0,0,1",
        "logarithm", r.one(1, 1, 1, 1, 1, 1));
    int back = r.make("over", r.one(1, 1, 1, 1, 1, 1, 1), r.letter(4));
    r.due(4, "terms", r.make("logarithm", back));
  }

  private static void logarithmAsOneSum() {
    Run r = new Run();
    r.makes("99:0,0,2,0,0 99:0,0,1,0,0 99:0,0,0,1,0 99:0,0,0,0,1",
        "logarithm", r.one(1, 1, 99, 99, 99, 99));
    r.makes("-99:0,0,2,0,0 -99:0,0,1,0,0 -99:0,0,0,1,0 -99:0,0,0,0,1",
        "logarithm", r.one(1, 1, -99, -99, -99, -99));
    r.makes("1:0,0,2,0,0 -2:0,0,1,0,0 3:0,0,0,1,0 -4:0,0,0,0,1",
        "logarithm", r.one(1, 1, 1, -2, 3, -4));
  }

  private static void logarithmLeavesOut() {
    String[] parts = {"5:0,0,2,0,0", "6:0,0,1,0,0", "7:0,0,0,1,0", "8:0,0,0,0,1"};
    for (int left = 0; left < 16; left++) {
      int[] exponents = new int[4];
      StringBuilder want = new StringBuilder();
      for (int kind = 0; kind < 4; kind++) {
        if ((left >> kind & 1) == 0) {
          exponents[kind] = 5 + kind;
          want.append(want.length() == 0 ? "" : " ").append(parts[kind]);
        }
      }
      Run r = new Run();
      r.makes(want.toString(), "logarithm", r.one(1, 1, exponents));
    }
  }

  /** What the multiples are of, in the order of the EXPONENTS that they make. */
  private static int base(Run r, int kind) {
    return kind == 0 ? r.power(2, 2) : r.letter(kind + 1);
  }

  private static String power(int kind, int exponent) {
    StringBuilder out = new StringBuilder("1:");
    for (int i = 0; i < 5; i++) {
      out.append(i == 0 ? "" : ",").append(i == kind ? exponent : 0);
    }
    return out.toString();
  }

  private static void multiples() {
    for (int kind = 0; kind < 4; kind++) {
      Run r = new Run();
      int base = base(r, kind);
      for (int multiple : new int[] {1, -1, 98, -98, 99, -99}) {
        int f = r.make("times", r.whole(multiple), base);
        r.makes(power(kind, multiple), "exponential", f);
      }
      for (int multiple : new int[] {100, -100, 101, 256, 1000000, -1000000}) {
        r.makesNone("exponential", r.make("times", r.whole(multiple), base));
      }
    }
  }

  private static void wholeMultiples() {
    for (int kind = 0; kind < 4; kind++) {
      Run r = new Run();
      int base = base(r, kind);
      r.makesNone("exponential", r.make("times", r.number(1, 2), base));
      r.makesNone("exponential", r.make("times", r.number(-1, 2), base));
      r.makesNone("exponential", r.make("times", r.number(3, 2), base));
      r.makesNone("exponential", r.make("times", r.number(99, 1000000), base));
      r.makesNone("exponential", r.make("times", r.number(197, 2), base));
      r.makes(power(kind, 2), "exponential", r.make("times", r.number(4, 2), base));
    }
  }

  private static void multiplesOfLetters() {
    int[][] others = {{0, 0, 0, 0, 0}, {0, 0, 3, 0, 0}, {0, 0, -1, 0, 0}, {0, 0, -2, 0, 0},
      {0, 0, 0, 2, 0}, {0, 0, 0, -1, 0}, {0, 0, 0, 0, 2}, {0, 0, 0, 0, -1}, {0, 0, 1, 1, 0},
      {0, 0, 2, 1, 0}, {0, 0, 2, -1, 0}, {0, 0, 1, 0, 1}, {0, 0, 2, 0, 1}, {0, 0, 1, 0, -1},
      {0, 0, 0, 1, 1}, {0, 0, 0, 1, -1}, {0, 0, 1, -1, 0}, {0, 0, -1, 1, 0}, {0, 0, 0, -1, 1},
      {1, 0, 0, 0, 0}, {0, 1, 0, 0, 0}, {-1, 0, 0, 0, 0}, {0, -1, 0, 0, 0}};
    for (int[] exponents : others) {
      Run r = new Run();
      r.makesNone("exponential", r.one(1, 1, exponents));
      r.makesNone("exponential", r.one(-2, 1, exponents));
    }
    int[][] letters = {{0, 0, 2, 0, 0}, {0, 0, 1, 0, 0}, {0, 0, 0, 1, 0}, {0, 0, 0, 0, 1}};
    for (int[] letter : letters) {
      Run r = new Run();
      r.make("exponential", r.one(1, 1, letter));
      int[] near = letter.clone();
      for (int cell = 0; cell < 2; cell++) {
        for (int exponent : new int[] {1, -1}) {
          near[cell] = exponent;
          r.makesNone("exponential", r.one(1, 1, near));
          near[cell] = 0;
        }
      }
    }
  }

  private static void sumsOfMultiples() {
    Run r = new Run();
    r.makes("1:0,0,0,0,0", "exponential", r.number(0, 1));
    int square = r.make("times", r.whole(99), base(r, 0));
    int first = r.make("times", r.whole(-99), base(r, 1));
    int log = r.make("times", r.whole(99), base(r, 2));
    int loglog = r.make("times", r.whole(-99), base(r, 3));
    r.makes("1:99,0,0,0,0", "exponential", square);
    r.makes("1:99,0,0,-99,0", "exponential", r.sum(square, loglog));
    r.makes("1:0,-99,99,0,0", "exponential", r.sum(log, first));
    r.makes("1:99,-99,99,-99,0", "exponential", r.sum(square, first, log, loglog));
    r.makes("1:1,1,1,1,0", "exponential", r.sum(base(r, 3), base(r, 2), base(r, 1), base(r, 0)));
  }

  private static void oneAmongOthers() {
    Run r = new Run();
    int all = r.sum(base(r, 0), base(r, 1), base(r, 2), base(r, 3));
    r.makesNone("exponential", r.make("add", all, r.power(2, 3)));
    r.makesNone("exponential", r.make("add", all, r.one(1, 1, 0, 0, 1, 1)));
    r.makesNone("exponential", r.make("add", all, r.power(4, 2)));
    r.makesNone("exponential", r.make("add", all, r.whole(1)));
    r.makesNone("exponential", r.make("add", all, r.power(2, -1)));
    r.makesNone("exponential", r.make("add", all, r.letter(0)));
    for (int kind = 0; kind < 4; kind++) {
      int base = base(r, kind);
      r.makesNone("exponential", r.make("add", all, r.make("times", r.whole(99), base)));
      r.makesNone("exponential", r.make("add", all, r.make("times", r.number(1, 2), base)));
      int less = r.make("add", all, r.make("times", r.whole(-1), base));
      r.due(0, "term", r.make("exponential", less), 0, kind);
    }
    r.makesNone("exponential", r.powersOfX(10));
    r.makes("1:1,1,1,1,0", "exponential", all);
  }

  private static void thereAndBack() {
    Run r = new Run();
    int f = r.one(1, 1, -99, 99, -99, 99);
    int log = r.make("logarithm", f);
    r.due(1, "same", f, r.make("exponential", log));
    int one = r.whole(1);
    int zero = r.make("logarithm", one);
    r.due(1, "same", one, r.make("exponential", zero));
    r.makesNone("logarithm", zero);
    r.makesNone("exponential", one);
  }
}
