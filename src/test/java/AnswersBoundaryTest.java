/** The boundaries that promises 10 to 19 name, a test for each sentence. */
public final class AnswersBoundaryTest {
  private static final int LEAST = Integer.MIN_VALUE;
  private static final int GREATEST = Integer.MAX_VALUE;

  public static void main(String[] args) {
    Sentences s = new Sentences();
    s.holds("10: how many TERMS it has, 0 .. 10", AnswersBoundaryTest::howManyTerms);
    s.holds("11: what 0 .. 4: p, q, a, b, d; 5, 6: the NUMBER", AnswersBoundaryTest::whatOfATerm);
    s.holds("11: its k-th TERM, the highest first", AnswersBoundaryTest::theKthTerm);
    s.holds("11: IllegalArgumentException: no such TERM", AnswersBoundaryTest::noSuchTerm);
    s.holds("11: IllegalArgumentException: no such what", AnswersBoundaryTest::noSuchWhat);
    s.holds("12: 1 if it grows above all numbers", AnswersBoundaryTest::growsAboveAll);
    s.holds("12: -1 if it falls below all", AnswersBoundaryTest::fallsBelowAll);
    s.holds("12: 0 if it comes near to one", AnswersBoundaryTest::comesNear);
    s.holds("13: that number's part above (0) or below (1)", AnswersBoundaryTest::partsOfTheNumber);
    s.holds("13: IllegalStateException: there is none", AnswersBoundaryTest::noNumber);
    s.holds("13: IllegalArgumentException: another part", AnswersBoundaryTest::noPartOfValue);
    s.holds("14: -1, 1, 0: the very next EXPONENT decides", AnswersBoundaryTest::nextExponent);
    s.holds("14: 0 if neither", AnswersBoundaryTest::neither);
    s.holds("14: 0 through anything but 0 is 0", AnswersBoundaryTest::zeroThroughAnything);
    s.holds("14: of two that are 0: 0", AnswersBoundaryTest::twoThatAreZero);
    s.holds("15: where compare() tells 0", AnswersBoundaryTest::ratioWhereCompareTellsZero);
    s.holds("15: and they aren't 0", AnswersBoundaryTest::ratioOfZero);
    s.holds("15: in lowest terms, above 0 below", AnswersBoundaryTest::ratioInLowestTerms);
    s.holds("15: parts beyond an int", AnswersBoundaryTest::ratioBeyondAnInt);
    s.holds("15: IllegalArgumentException: another part", AnswersBoundaryTest::noPartOfRatio);
    s.holds("16: 1 if it is above 0, -1 if below, 0 if it is 0", AnswersBoundaryTest::signs);
    s.holds("17: the same sum of TERMS", AnswersBoundaryTest::theSame);
    s.holds("17: not the same by one part of one TERM", AnswersBoundaryTest::notTheSame);
    s.holds("18: bits of handles 0 .. 31", AnswersBoundaryTest::bitsOfHandles);
    s.holds("18: the lowest handle of those", AnswersBoundaryTest::lowestHandle);
    s.holds("18: compare() tells no other to be above", AnswersBoundaryTest::noOtherAbove);
    s.holds("18: -1 without any", AnswersBoundaryTest::withoutAny);
    s.holds("18: IllegalArgumentException: a bit too many", AnswersBoundaryTest::bitTooMany);
    s.holds("19: how many functions there are, 0 .. 80", AnswersBoundaryTest::howManyFunctions);
    s.holds("19: a refused call and -1 make none", AnswersBoundaryTest::countOfRefused);
    s.end();
  }

  private static void howManyTerms() {
    Run r = new Run();
    r.due(0, "terms", r.number(0, 1));
    for (int terms = 1; terms <= 10; terms++) {
      r.due(terms, "terms", r.powersOfX(terms));
    }
    int ten = r.powersOfX(10);
    r.refused(Run.STATE, "add", ten, r.letter(0));
    r.due(10, "terms", ten);
    int less = r.make("add", ten, r.whole(-1));
    r.due(9, "terms", less);
    r.due(10, "terms", ten);
  }

  private static void whatOfATerm() {
    Run r = new Run();
    int f = r.one(-5, 7, 2, -3, 4, -6, 8);
    int[] want = {2, -3, 4, -6, 8, -5, 7};
    for (int what = 0; what < 7; what++) {
      r.due(want[what], "term", f, 0, what);
    }
    Run s = new Run();
    int number = s.number(-1000000, 999999);
    int[] parts = {0, 0, 0, 0, 0, -1000000, 999999};
    for (int what = 0; what < 7; what++) {
      s.due(parts[what], "term", number, 0, what);
    }
  }

  private static void theKthTerm() {
    Run r = new Run();
    int ten = r.powersOfX(10);
    // functions on either side in the order of making
    r.make("letter", 4);
    for (int k = 0; k < 10; k++) {
      r.due(9 - k, "term", ten, k, 2);
      r.due(1, "term", ten, k, 5);
    }
    int slope = r.make("derive", ten);
    for (int k = 0; k < 9; k++) {
      r.due(8 - k, "term", slope, k, 2);
      r.due(9 - k, "term", slope, k, 5);
    }
  }

  private static void noSuchTerm() {
    Run r = new Run();
    int zero = r.number(0, 1);
    int x = r.x();
    int ten = r.powersOfX(10);
    int last = r.make("letter", 4);
    for (int k : new int[] {-1, -10, 10, 11, 99, LEAST, GREATEST}) {
      r.refused(Run.ARGUMENT, "term", zero, k, 0);
      r.refused(Run.ARGUMENT, "term", x, k, 0);
      r.refused(Run.ARGUMENT, "term", ten, k, 0);
      r.refused(Run.ARGUMENT, "term", last, k, 6);
    }
    r.refused(Run.ARGUMENT, "term", zero, 0, 0);
    r.refused(Run.ARGUMENT, "term", x, 1, 0);
    r.due(1, "term", x, 0, 2);
    r.due(9, "term", ten, 0, 2);
    r.due(0, "term", ten, 9, 2);
    // a TERM that has gone
    int two = r.make("add", x, r.whole(1));
    int one = r.make("add", two, r.whole(-1));
    r.due(0, "term", two, 1, 2);
    r.refused(Run.ARGUMENT, "term", one, 1, 2);
  }

  private static void noSuchWhat() {
    Run r = new Run();
    int x = r.x();
    int ten = r.powersOfX(10);
    for (int what : new int[] {-1, 7, 8, -7, LEAST, GREATEST}) {
      r.refused(Run.ARGUMENT, "term", x, 0, what);
      r.refused(Run.ARGUMENT, "term", ten, 5, what);
      r.refused(Run.ARGUMENT, "term", ten, 9, what);
      r.refused(Run.ARGUMENT, "term", ten, 10, what);
    }
    r.due(0, "term", x, 0, 0);
    r.due(1, "term", x, 0, 6);
  }

  /** A TERM that is just above the numbers, or below them, by this EXPONENT alone. */
  private static int just(Run r, int above, int cell, int exponent) {
    int[] exponents = new int[5];
    exponents[cell] = exponent;
    for (int later = cell + 1; later < 5; later++) {
      exponents[later] = -3 * exponent;
    }
    return r.one(above, 1000000, exponents);
  }

  private static void growsAboveAll() {
    for (int cell = 0; cell < 5; cell++) {
      Run r = new Run();
      r.due(1, "limit", just(r, 1, cell, 1));
      r.due(1, "limit", r.letter(cell));
      r.due(1, "limit", r.make("add", just(r, 1, cell, 1), r.whole(-1000000)));
    }
  }

  private static void fallsBelowAll() {
    for (int cell = 0; cell < 5; cell++) {
      Run r = new Run();
      r.due(-1, "limit", just(r, -1, cell, 1));
      r.due(-1, "limit", r.make("times", r.whole(-1), r.letter(cell)));
      r.due(-1, "limit", r.make("add", just(r, -1, cell, 1), r.whole(1000000)));
    }
  }

  private static void comesNear() {
    for (int cell = 0; cell < 5; cell++) {
      Run r = new Run();
      r.due(0, "limit", just(r, 1, cell, -1));
      r.due(0, "limit", just(r, -1, cell, -1));
      r.due(0, "limit", r.make("over", r.whole(1000000), r.letter(cell)));
      r.due(0, "limit", r.make("add", r.whole(-1), just(r, 1, cell, -1)));
    }
    Run r = new Run();
    r.due(0, "limit", r.number(0, 1));
    r.due(0, "limit", r.whole(1000000));
    r.due(0, "limit", r.whole(-1000000));
    r.due(0, "limit", r.number(1, 1000000));
  }

  private static void partsOfTheNumber() {
    Run r = new Run();
    int under = r.power(4, -1);
    int[][] numbers = {{1000000, 1}, {-1000000, 1}, {1, 1000000}, {-2, 3}, {0, 1}};
    for (int[] number : numbers) {
      int alone = r.number(number[0], number[1]);
      r.due(number[0], "value", alone, 0);
      r.due(number[1], "value", alone, 1);
      int near = r.make("add", alone, under);
      r.due(number[0], "value", near, 0);
      r.due(number[1], "value", near, 1);
    }
    for (int cell = 0; cell < 5; cell++) {
      Run s = new Run();
      int near = just(s, -7, cell, -1);
      s.due(0, "value", near, 0);
      s.due(1, "value", near, 1);
    }
  }

  private static void noNumber() {
    for (int cell = 0; cell < 5; cell++) {
      Run r = new Run();
      int grows = just(r, 1, cell, 1);
      int falls = just(r, -1, cell, 1);
      int both = r.make("add", grows, r.whole(5));
      for (int part = 0; part < 2; part++) {
        r.refused(Run.STATE, "value", grows, part);
        r.refused(Run.STATE, "value", falls, part);
        r.refused(Run.STATE, "value", both, part);
      }
      r.refused(Run.STATE, "value", grows, 2);
      r.refused(Run.STATE, "value", falls, -1);
      r.due(0, "value", just(r, 1, cell, -1), 0);
    }
  }

  private static void noPartOfValue() {
    Run r = new Run();
    int number = r.number(3, 4);
    int zero = r.number(0, 1);
    int under = r.power(2, -1);
    for (int part : new int[] {-1, 2, 3, LEAST, GREATEST}) {
      r.refused(Run.ARGUMENT, "value", number, part);
      r.refused(Run.ARGUMENT, "value", zero, part);
      r.refused(Run.ARGUMENT, "value", under, part);
    }
    r.due(3, "value", number, 0);
    r.due(4, "value", number, 1);
  }

  private static void nextExponent() {
    for (int cell = 0; cell < 5; cell++) {
      Run r = new Run();
      int letter = r.letter(cell);
      int square = r.make("times", letter, letter);
      int under = r.make("over", r.whole(-1000000), letter);
      int one = r.number(1, 1000000);
      int[] rising = {under, one, letter, square};
      for (int i = 0; i < 4; i++) {
        for (int j = 0; j < 4; j++) {
          r.due(Integer.compare(i, j), "compare", rising[i], rising[j]);
        }
      }
    }
    Run r = new Run();
    int highest = r.power(0, 99);
    int lowest = r.power(0, -99);
    r.due(1, "compare", highest, lowest);
    r.due(-1, "compare", lowest, highest);
  }

  private static void neither() {
    Run r = new Run();
    int x = r.x();
    int other = r.make("add", r.one(-1000000, 1, 0, 0, 1), r.one(1000000, 1, 0, 0, 0, 99));
    r.due(0, "compare", x, other);
    r.due(0, "compare", other, x);
    r.due(0, "compare", x, x);
    r.due(0, "compare", r.whole(1000000), r.number(-1, 1000000));
    int slight = r.make("add", x, r.letter(4));
    r.due(0, "compare", x, slight);
    r.due(-1, "compare", x, r.make("times", x, r.letter(4)));
    r.due(1, "compare", x, r.make("over", x, r.letter(4)));
  }

  private static void zeroThroughAnything() {
    Run r = new Run();
    int zero = r.number(0, 1);
    int least = r.one(1, 1000000, -99, -99, -99, -99);
    r.due(-1, "compare", zero, least);
    r.due(1, "compare", least, zero);
    r.due(-1, "compare", zero, r.whole(-1000000));
    r.due(1, "compare", r.whole(-1000000), zero);
    r.due(-1, "compare", zero, r.power(0, 99));
    r.due(1, "compare", r.power(0, 99), zero);
  }

  private static void twoThatAreZero() {
    Run r = new Run();
    int zero = r.number(0, 1);
    int other = r.make("add", r.whole(1), r.whole(-1));
    r.due(0, "compare", zero, other);
    r.due(0, "compare", other, zero);
    r.due(0, "compare", zero, zero);
  }

  private static void ratioWhereCompareTellsZero() {
    for (int cell = 0; cell < 5; cell++) {
      Run r = new Run();
      int letter = r.letter(cell);
      int one = r.whole(1);
      for (int part = -1; part < 3; part++) {
        r.refused(Run.STATE, "ratio", letter, one, part);
        r.refused(Run.STATE, "ratio", one, letter, part);
      }
      int twice = r.make("add", r.make("add", letter, letter), one);
      r.due(1, "ratio", letter, twice, 0);
      r.due(2, "ratio", letter, twice, 1);
      r.due(2, "ratio", twice, letter, 0);
      r.due(1, "ratio", twice, letter, 1);
    }
  }

  private static void ratioOfZero() {
    Run r = new Run();
    int zero = r.number(0, 1);
    int other = r.make("add", r.x(), r.one(-1, 1, 0, 0, 1));
    int one = r.whole(1);
    for (int part = -1; part < 3; part++) {
      r.refused(Run.STATE, "ratio", zero, zero, part);
      r.refused(Run.STATE, "ratio", zero, other, part);
      r.refused(Run.STATE, "ratio", zero, one, part);
      r.refused(Run.STATE, "ratio", one, zero, part);
    }
    r.due(1, "ratio", one, one, 0);
    r.due(1, "ratio", one, one, 1);
  }

  private static void ratioInLowestTerms() {
    Run r = new Run();
    int[][] cases = {{6, 5, 4, 15, 9, 2}, {-6, 5, 4, 15, -9, 2}, {6, 5, -4, 15, -9, 2},
      {-6, 5, -4, 15, 9, 2}, {1, 1, -1, 1, -1, 1}, {-1, 1, -1, 1, 1, 1}, {2, 3, 2, 3, 1, 1}};
    for (int[] c : cases) {
      int a = r.number(c[0], c[1]);
      int b = r.number(c[2], c[3]);
      r.due(c[4], "ratio", a, b, 0);
      r.due(c[5], "ratio", a, b, 1);
    }
    // only the highest TERMS count
    int a = r.make("add", r.one(3, 1, 0, 0, 1), r.whole(1000000));
    int b = r.make("add", r.one(-6, 1, 0, 0, 1), r.letter(3));
    r.due(-1, "ratio", a, b, 0);
    r.due(2, "ratio", a, b, 1);
  }

  private static void ratioBeyondAnInt() {
    Run r = new Run();
    int most = r.whole(1000000);
    int minus = r.whole(-1000000);
    int least = r.number(1, 1000000);
    r.due(1000000000000L, "ratio", most, least, 0);
    r.due(1, "ratio", most, least, 1);
    r.due(-1000000000000L, "ratio", minus, least, 0);
    r.due(1, "ratio", least, most, 0);
    r.due(1000000000000L, "ratio", least, most, 1);
    r.due(-1, "ratio", least, minus, 0);
    r.due(1000000000000L, "ratio", least, minus, 1);
    int a = r.number(1000000, 999999);
    int b = r.number(-999997, 999998);
    r.due(-999998000000L, "ratio", a, b, 0);
    r.due(999996000003L, "ratio", a, b, 1);
    // 2147483648, one more than the greatest int
    int high = r.whole(65536);
    int low = r.number(1, 32768);
    r.due(2147483648L, "ratio", high, low, 0);
    r.due(2147483648L, "ratio", low, high, 1);
  }

  private static void noPartOfRatio() {
    Run r = new Run();
    int a = r.number(3, 4);
    int x = r.x();
    for (int part : new int[] {-1, 2, 3, LEAST, GREATEST}) {
      r.refused(Run.ARGUMENT, "ratio", a, a, part);
      r.refused(Run.ARGUMENT, "ratio", x, x, part);
    }
    r.due(1, "ratio", a, a, 0);
    r.due(1, "ratio", x, x, 1);
  }

  private static void signs() {
    Run r = new Run();
    r.due(0, "sign", r.number(0, 1));
    r.due(1, "sign", r.number(1, 1000000));
    r.due(-1, "sign", r.number(-1, 1000000));
    r.due(-1, "sign", r.number(1, -1));
    r.due(1, "sign", r.number(-1, -1));
    // it comes near to 0 and yet is above or below
    r.due(1, "sign", r.power(0, -99));
    r.due(-1, "sign", r.one(-1, 1, -99));
    int above = r.make("add", r.power(4, -1), r.one(-1000000, 1, 0, 0, 0, -1));
    r.due(1, "sign", above);
    int below = r.make("add", r.one(-1, 1000000, 0, 0, 1), r.one(1000000, 1, 0, 0, 0, 99));
    r.due(-1, "sign", below);
    r.due(0, "sign", r.make("add", r.whole(1), r.whole(-1)));
  }

  private static void theSame() {
    Run r = new Run();
    int zero = r.number(0, 1);
    int gone = r.make("add", r.x(), r.one(-1, 1, 0, 0, 1));
    r.due(1, "same", zero, zero);
    r.due(1, "same", zero, gone);
    r.due(1, "same", gone, zero);
    int ten = r.powersOfX(10);
    int other = r.make("add", r.x(), r.whole(1));
    for (int power = 2; power < 10; power++) {
      other = r.make("add", other, r.power(2, power));
    }
    r.due(1, "same", ten, other);
    r.due(1, "same", other, ten);
    r.due(1, "same", ten, ten);
    r.due(1, "same", r.number(1, 2), r.make("number", -7, -14));
  }

  private static void notTheSame() {
    Run r = new Run();
    int ten = r.powersOfX(10);
    r.due(0, "same", ten, r.powersOfX(9));
    r.due(0, "same", r.powersOfX(9), ten);
    r.due(0, "same", ten, r.make("add", ten, r.whole(1)));
    r.due(0, "same", ten, r.make("add", ten, r.number(-1, 2)));
    r.due(0, "same", ten, r.make("add", ten, r.power(2, 9)));
    r.due(0, "same", ten, r.make("add", ten, r.power(2, 5)));
    Run s = new Run();
    int zero = s.number(0, 1);
    int one = s.whole(1);
    r.due(0, "same", r.number(0, 1), r.whole(1));
    s.due(0, "same", zero, one);
    s.due(0, "same", one, zero);
    s.due(0, "same", one, s.whole(-1));
    s.due(0, "same", one, s.whole(2));
    s.due(0, "same", s.number(1, 2), s.number(1, 3));
    for (int kind = 0; kind < 5; kind++) {
      int letter = s.letter(kind);
      s.due(0, "same", letter, one);
      s.due(0, "same", s.make("add", letter, s.whole(2)), s.make("add", letter, one));
      int under = s.make("over", one, letter);
      s.due(0, "same", letter, under);
      s.due(0, "same", s.make("add", s.whole(7), under), s.make("add", s.whole(7), letter));
    }
  }

  private static void bitsOfHandles() {
    Run r = new Run();
    r.fillTo(32);
    for (int handle = 0; handle < 32; handle++) {
      r.due(handle, "fastest", 1 << handle);
    }
    r.due(0, "fastest", -1);
    r.due(0, "fastest", GREATEST);
    r.due(31, "fastest", LEAST);
    r.due(30, "fastest", LEAST | 1 << 30);
    // the handles 32 and above have no bit, though they grow faster
    r.make("letter", 0);
    r.make("letter", 0);
    r.due(0, "fastest", -1);
    r.due(0, "fastest", 1);
    r.due(1, "fastest", 2);
    r.fillTo(80);
    r.due(0, "fastest", -1);
    r.due(31, "fastest", LEAST);
  }

  private static void lowestHandle() {
    Run r = new Run();
    r.make("letter", 3);
    r.make("letter", 2);
    r.make("number", -5, 1);
    r.make("times", 1, 2);
    r.make("letter", 2);
    r.make("add", 0, 1);
    r.due(1, "fastest", 0b111111);
    r.due(1, "fastest", 0b100010);
    r.due(3, "fastest", 0b111101);
    r.due(4, "fastest", 0b110101);
    r.due(5, "fastest", 0b100101);
    r.due(0, "fastest", 0b000101);
    r.due(2, "fastest", 0b000100);
    Run zeros = new Run();
    zeros.make("number", 0, 1);
    zeros.make("number", 0, 1);
    zeros.make("number", 0, 1);
    zeros.due(0, "fastest", 0b111);
    zeros.due(1, "fastest", 0b110);
    zeros.due(2, "fastest", 0b100);
  }

  private static void noOtherAbove() {
    Run r = new Run();
    r.make("number", 0, 1);
    r.make("number", -1, 1000000);
    for (int kind = 4; kind >= 0; kind--) {
      r.make("letter", kind);
    }
    for (int last = 0; last < 7; last++) {
      r.due(last, "fastest", (2 << last) - 1);
      r.due(last, "fastest", 1 << last | 1);
    }
    // the fastest stands first, in the middle, and last
    Run s = new Run();
    s.make("letter", 4);
    s.make("letter", 0);
    s.make("letter", 3);
    s.make("over", 2, 1);
    s.due(1, "fastest", 0b1111);
    s.due(2, "fastest", 0b1101);
    s.due(0, "fastest", 0b1001);
    s.due(3, "fastest", 0b1000);
    // one that falls below all numbers grows fast too
    Run t = new Run();
    t.make("letter", 2);
    t.make("number", -1, 1);
    t.make("letter", 1);
    t.make("times", 1, 2);
    t.due(3, "fastest", 0b1011);
  }

  private static void withoutAny() {
    Run r = new Run();
    r.due(-1, "fastest", 0);
    r.make("letter", 2);
    r.due(-1, "fastest", 0);
    r.due(0, "fastest", 1);
    r.fillTo(80);
    r.due(-1, "fastest", 0);
  }

  private static void bitTooMany() {
    for (int made : new int[] {0, 1, 2, 15, 30, 31}) {
      Run r = new Run();
      r.fillTo(made);
      r.refused(Run.ARGUMENT, "fastest", 1 << made);
      r.refused(Run.ARGUMENT, "fastest", 1 << made | 1);
      r.refused(Run.ARGUMENT, "fastest", LEAST);
      r.refused(Run.ARGUMENT, "fastest", LEAST | 1);
      r.refused(Run.ARGUMENT, "fastest", -1);
      if (made > 0) {
        r.due(made - 1, "fastest", 1 << made - 1);
        r.due(0, "fastest", (1 << made) - 1);
      }
      // with one more function the bit has one
      r.make("letter", 2);
      r.due(made, "fastest", 1 << made);
    }
  }

  private static void howManyFunctions() {
    Run r = new Run();
    for (int made = 0; made < 80; made++) {
      r.due(made, "count");
      r.make("letter", made % 5);
    }
    r.due(80, "count");
    r.refused(Run.STATE, "letter", 0);
    r.due(80, "count");
  }

  private static void countOfRefused() {
    Run r = new Run();
    r.refused(Run.ARITHMETIC, "number", 1, 0);
    r.refused(Run.STATE, "number", 1000001, 1);
    r.refused(Run.ARGUMENT, "letter", 5);
    r.refused(Run.INDEX, "add", 0, 0);
    r.due(0, "count");
    r.make("number", 0, 1);
    r.make("letter", 4);
    r.due(2, "count");
    r.makesNone("over", 1, 0);
    r.makesNone("logarithm", 1);
    r.makesNone("exponential", r.make("times", 1, 1));
    r.due(3, "count");
    r.refused(Run.INDEX, "times", 0, 3);
    r.refused(Run.INDEX, "over", 3, 0);
    r.refused(Run.INDEX, "derive", -1);
    r.refused(Run.ARGUMENT, "term", 0, 0, 0);
    r.refused(Run.STATE, "value", 1, 0);
    r.refused(Run.STATE, "ratio", 0, 1, 0);
    r.refused(Run.ARGUMENT, "fastest", 8);
    r.due(3, "count");
  }
}
