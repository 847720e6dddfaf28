/** The boundaries that the document names in 'What it is' and 'Terms', a test for each sentence. */
public final class TermsBoundaryTest {
  private static final int LEAST = Integer.MIN_VALUE;
  private static final int GREATEST = Integer.MAX_VALUE;
  private static final String[] LETTERS = {
    "1:1,0,0,0,0", "1:0,1,0,0,0", "1:0,0,1,0,0", "1:0,0,0,1,0", "1:0,0,0,0,1"
  };

  public static void main(String[] args) {
    Sentences s = new Sentences();
    s.holds("at most 512 calls: the 512th of each kind", TermsBoundaryTest::lastCall);
    s.holds("at most 512 calls: behind 511 refused ones", TermsBoundaryTest::callsRefused);
    s.holds("EXPONENTS are -99 .. 99: in a product", TermsBoundaryTest::exponentsInProducts);
    s.holds("EXPONENTS are -99 .. 99: in a quotient", TermsBoundaryTest::exponentsInQuotients);
    s.holds("EXPONENTS are -99 .. 99: x more once", TermsBoundaryTest::exponentsMoreX);
    s.holds("EXPONENTS are -99 .. 99: x less once", TermsBoundaryTest::exponentsLessX);
    s.holds("EXPONENTS are -99 .. 99: x and L less once", TermsBoundaryTest::exponentsLessL);
    s.holds("EXPONENTS are -99 .. 99: x, L and M less once", TermsBoundaryTest::exponentsLessM);
    s.holds("EXPONENTS are -99 .. 99: all at once", TermsBoundaryTest::exponentsAllAtOnce);
    s.holds("its NUMBER is a fraction in lowest terms", TermsBoundaryTest::lowestTerms);
    s.holds("its NUMBER isn't 0", TermsBoundaryTest::numberIsNotZero);
    s.holds("the part below above 0", TermsBoundaryTest::partBelowAboveZero);
    s.holds("no part above 1000000 in size: a number", TermsBoundaryTest::partsOfNumbers);
    s.holds("no part above 1000000 in size: a sum", TermsBoundaryTest::partsOfSums);
    s.holds("no part above 1000000 in size: a product", TermsBoundaryTest::partsOfProducts);
    s.holds("no part above 1000000 in size: a quotient", TermsBoundaryTest::partsOfQuotients);
    s.holds("no part above 1000000 in size: a slope", TermsBoundaryTest::partsOfSlopes);
    s.holds("ABOVE: at the first EXPONENT where they differ", TermsBoundaryTest::above);
    s.holds("up to 10 TERMS: a sum", TermsBoundaryTest::tenTermsOfSums);
    s.holds("up to 10 TERMS: a product", TermsBoundaryTest::tenTermsOfProducts);
    s.holds("up to 10 TERMS: a quotient", TermsBoundaryTest::tenTermsOfQuotients);
    s.holds("up to 10 TERMS: a slope", TermsBoundaryTest::tenTermsOfSlopes);
    s.holds("different EXPONENTS, the highest first", TermsBoundaryTest::highestFirst);
    s.holds("of none it is 0", TermsBoundaryTest::ofNoneItIsZero);
    s.holds("handles, 0 .. 79, in the order of making", TermsBoundaryTest::handles);
    s.holds("handle 79, and 10 TERMS of it", TermsBoundaryTest::lastHandle);
    s.holds("if there is one with its EXPONENTS, the NUMBERS are added", TermsBoundaryTest::added);
    s.holds("if that makes 0, it goes", TermsBoundaryTest::itGoes);
    s.holds("else it is one more", TermsBoundaryTest::oneMore);
    s.holds("a sum of two: all TERMS of the second are PUT", TermsBoundaryTest::sumOfTwo);
    s.holds("a product: for each TERM of the first one", TermsBoundaryTest::orderOfProduct);
    s.holds("the slope: for each TERM, the highest first", TermsBoundaryTest::orderOfSlope);
    s.holds("2 p, q, a, b, d times it, where these aren't 0", TermsBoundaryTest::partsOfSlope);
    s.holds("TOO GREAT on the way: a product's part above", TermsBoundaryTest::aboveOnTheWay);
    s.holds("TOO GREAT on the way: a product's part below", TermsBoundaryTest::belowOnTheWay);
    s.holds("TOO GREAT on the way: an added part below", TermsBoundaryTest::addedBelowOnTheWay);
    s.holds("TOO GREAT on the way: the last TERM alone", TermsBoundaryTest::lastTermTooGreat);
    s.holds("in the end more than 10 TERMS: a sum", TermsBoundaryTest::manyInSums);
    s.holds("in the end more than 10 TERMS: a product", TermsBoundaryTest::manyInProducts);
    s.holds("in the end more than 10 TERMS: a slope", TermsBoundaryTest::manyInSlopes);
    s.holds("told of x beyond some number", TermsBoundaryTest::beyondSomeNumber);
    s.holds("IndexOutOfBoundsException: no such function, of none", TermsBoundaryTest::noFunction);
    s.holds("IndexOutOfBoundsException: no such function, of one", TermsBoundaryTest::oneFunction);
    s.holds("IndexOutOfBoundsException: no such function, of 80", TermsBoundaryTest::allFunctions);
    s.holds("IllegalStateException: 80 functions are there", TermsBoundaryTest::fullObject);
    s.holds("80 functions, and -1 else: the exception comes", TermsBoundaryTest::fullObjectAndNone);
    s.holds("of several the first one behind throws", TermsBoundaryTest::firstBehindThrows);
    s.holds("nothing changes, behind refused calls of each kind", TermsBoundaryTest::nothingChanges);
    s.end();
  }

  /** So many calls that change nothing. */
  private static Run lettersBehindCalls(int calls) {
    Run r = new Run();
    for (int kind = 0; kind < 5; kind++) {
      r.make("letter", kind);
    }
    while (r.calls() < calls) {
      r.due(5, "count");
    }
    return r;
  }

  private static void lastCall() {
    lettersBehindCalls(511).due(5, "number", 1, 2);
    lettersBehindCalls(511).due(5, "letter", 4);
    lettersBehindCalls(511).due(5, "add", 0, 1);
    lettersBehindCalls(511).due(5, "times", 3, 4);
    lettersBehindCalls(511).due(5, "over", 3, 4);
    lettersBehindCalls(511).due(5, "derive", 2);
    lettersBehindCalls(511).due(5, "logarithm", 0);
    lettersBehindCalls(511).due(5, "exponential", 2);
    lettersBehindCalls(511).due(1, "terms", 4);
    lettersBehindCalls(511).due(1, "term", 4, 0, 4);
    lettersBehindCalls(511).due(1, "limit", 4);
    lettersBehindCalls(511).due(-1, "compare", 4, 3);
    lettersBehindCalls(511).due(1, "ratio", 4, 4, 0);
    lettersBehindCalls(511).due(1, "sign", 4);
    lettersBehindCalls(511).due(0, "same", 4, 3);
    lettersBehindCalls(511).due(3, "fastest", 0b11000);
    lettersBehindCalls(511).due(5, "count");
    lettersBehindCalls(511).refused(Run.STATE, "value", 4, 0);
    lettersBehindCalls(511).refused(Run.INDEX, "terms", 5);
    Run made = lettersBehindCalls(500);
    int f = made.make("times", 3, 4);
    made.reads(f, "1:0,0,0,1,1");
    made.makesNone("logarithm", f);
    made.due(6, "count");
    made.due(0, "fastest", 0b111111);
    if (made.calls() != Run.MOST_CALLS) {
      throw new AssertionError("the test makes " + made.calls() + " calls");
    }
  }

  private static void callsRefused() {
    GrowthLimits g = new GrowthLimits();
    int refused = 0;
    for (int i = 0; i < 511; i++) {
      try {
        g.letter(5);
      } catch (IllegalArgumentException e) {
        refused++;
      }
    }
    if (refused != 511 || g.letter(4) != 0) {
      throw new AssertionError("the 512th call behind " + refused + " refused ones");
    }
  }

  private static String power(int kind, int exponent) {
    StringBuilder out = new StringBuilder("1:");
    for (int i = 0; i < 5; i++) {
      out.append(i == 0 ? "" : ",").append(i == kind ? exponent : 0);
    }
    return out.toString();
  }

  private static void exponentsInProducts() {
    for (int kind = 0; kind < 5; kind++) {
      Run r = new Run();
      int letter = r.letter(kind);
      int under = r.make("over", r.whole(1), letter);
      int high = r.power(kind, 98);
      int highest = r.makes(power(kind, 99), "times", high, letter);
      r.refused(Run.STATE, "times", highest, letter);
      r.refused(Run.STATE, "times", letter, highest);
      r.refused(Run.STATE, "times", highest, highest);
      int low = r.make("over", r.whole(1), high);
      int lowest = r.makes(power(kind, -99), "times", low, under);
      r.refused(Run.STATE, "times", lowest, under);
      r.refused(Run.STATE, "times", under, lowest);
      r.refused(Run.STATE, "times", lowest, lowest);
      r.makes("1:0,0,0,0,0", "times", lowest, highest);
    }
  }

  private static void exponentsInQuotients() {
    for (int kind = 0; kind < 5; kind++) {
      Run r = new Run();
      int letter = r.letter(kind);
      int under = r.make("over", r.whole(1), letter);
      int high = r.power(kind, 98);
      int highest = r.makes(power(kind, 99), "over", high, under);
      r.refused(Run.STATE, "over", highest, under);
      int low = r.make("over", r.whole(1), high);
      int lowest = r.makes(power(kind, -99), "over", low, letter);
      r.refused(Run.STATE, "over", lowest, letter);
      r.refused(Run.STATE, "over", highest, lowest);
      r.refused(Run.STATE, "over", lowest, highest);
      r.makes(power(kind, 99), "over", r.whole(1), lowest);
      r.makes(power(kind, -99), "over", r.whole(1), highest);
      r.makes("1:0,0,0,0,0", "over", lowest, lowest);
    }
  }

  private static void exponentsMoreX() {
    Run r = new Run();
    r.makes("2:1,0,99,0,0 98:1,0,97,0,0", "derive", r.one(1, 1, 1, 0, 98));
    r.refused(Run.STATE, "derive", r.one(1, 1, 1, 0, 99));
    r.refused(Run.STATE, "derive", r.one(1, 1, -1, 0, 99));
    r.makes("99:0,0,98,0,0", "derive", r.one(1, 1, 0, 0, 99));
    r.makes("1:0,1,99,0,0 99:0,1,98,0,0", "derive", r.one(1, 1, 0, 1, 99));
    Run p = new Run();
    p.makes("198:99,0,1,0,0", "derive", p.power(0, 99));
    p.makes("-198:-99,0,1,0,0", "derive", p.power(0, -99));
    p.makes("99:0,99,0,0,0", "derive", p.power(1, 99));
    p.makes("-99:0,-99,0,0,0", "derive", p.power(1, -99));
  }

  private static void exponentsLessX() {
    Run r = new Run();
    r.makes("-98:0,0,-99,0,0", "derive", r.power(2, -98));
    r.refused(Run.STATE, "derive", r.power(2, -99));
    r.refused(Run.STATE, "derive", r.one(1, 1, 0, 1, -99));
    r.refused(Run.STATE, "derive", r.one(1, 1, 1, 0, -99));
    r.makes("-98:0,0,-99,1,0 1:0,0,-99,0,0", "derive", r.one(1, 1, 0, 0, -98, 1));
    r.refused(Run.STATE, "derive", r.one(1, 1, 0, 0, -99, 1));
    r.makes("-98:0,0,-99,0,1 1:0,0,-99,-1,0", "derive", r.one(1, 1, 0, 0, -98, 0, 1));
    r.refused(Run.STATE, "derive", r.one(1, 1, 0, 0, -99, 0, 1));
  }

  private static void exponentsLessL() {
    Run r = new Run();
    r.makes("-98:0,0,-1,-99,0", "derive", r.power(3, -98));
    r.refused(Run.STATE, "derive", r.power(3, -99));
    r.makes("99:0,0,-1,98,0", "derive", r.power(3, 99));
    r.makes("-98:0,0,-1,-99,1 1:0,0,-1,-99,0", "derive", r.one(1, 1, 0, 0, 0, -98, 1));
    r.refused(Run.STATE, "derive", r.one(1, 1, 0, 0, 0, -99, 1));
  }

  private static void exponentsLessM() {
    Run r = new Run();
    int low = r.power(4, -98);
    r.makes("-98:0,0,-1,-1,-99", "derive", low);
    int lowest = r.make("over", low, r.letter(4));
    r.reads(lowest, "1:0,0,0,0,-99");
    r.refused(Run.STATE, "derive", lowest);
    int high = r.make("over", r.whole(1), lowest);
    r.makes("99:0,0,-1,-1,98", "derive", high);
  }

  private static void exponentsAllAtOnce() {
    Run r = new Run();
    int f = r.one(1, 1, 99, -99, 99, -99, 99);
    r.reads(f, "1:99,-99,99,-99,99");
    int turned = r.makes("1:-99,99,-99,99,-99", "over", r.whole(1), f);
    r.makes("1:0,0,0,0,0", "times", f, turned);
    for (int kind = 0; kind < 5; kind++) {
      int letter = r.letter(kind);
      boolean high = kind % 2 == 0;
      r.refused(Run.STATE, high ? "times" : "over", f, letter);
      r.refused(Run.STATE, high ? "over" : "times", turned, letter);
    }
    int three = r.sum(r.power(0, -1), r.power(1, 99), r.power(4, 1));
    r.refused(Run.STATE, "times", three, r.letter(1));
    r.makes("1:0,99,0,1,0 1:0,0,0,1,1 1:-1,0,0,1,0", "times", three, r.letter(3));
  }

  private static void lowestTerms() {
    Run r = new Run();
    r.makes("3/2:0,0,0,0,0", "number", 6, 4);
    r.makes("1:0,0,0,0,0", "number", 7, 7);
    r.makes("2:0,0,0,0,0", "number", 14, 7);
    r.makes("1/2:0,0,0,0,0", "number", 7, 14);
    r.makes("999999/1000000:0,0,0,0,0", "number", 999999, 1000000);
    r.makes("1/2:0,0,0,0,0", "add", r.number(1, 6), r.number(1, 3));
    r.makes("1/2:0,0,0,0,0", "times", r.number(2, 3), r.number(3, 4));
    r.makes("8/9:0,0,0,0,0", "over", r.number(2, 3), r.number(3, 4));
    r.makes("1:1,0,1,0,0", "derive", r.one(1, 2, 1));
    r.makes("2/3:0,0,3,0,0", "derive", r.one(1, 6, 0, 0, 4));
  }

  private static void numberIsNotZero() {
    Run r = new Run();
    int zero = r.makes("", "number", 0, 1);
    r.makes("", "times", zero, r.x());
    r.makes("", "times", r.x(), zero);
    r.makes("", "over", zero, r.x());
    r.makes("", "derive", r.whole(5));
    r.makes("1:0,0,1,0,0", "add", r.x(), zero);
    r.makes("1:0,0,1,0,0", "add", zero, r.x());
    r.makes("1/1000000:0,0,0,0,0", "number", 1, 1000000);
    r.makes("-1/1000000:0,0,0,0,0", "number", -1, 1000000);
  }

  private static void partBelowAboveZero() {
    Run r = new Run();
    r.makes("-1/2:0,0,0,0,0", "number", 1, -2);
    r.makes("1/2:0,0,0,0,0", "number", -1, -2);
    r.makes("-1/2:0,0,0,0,0", "number", -1, 2);
    r.makes("-1:0,0,0,0,0", "number", 1, -1);
    r.makes("-1:0,0,0,0,0", "over", r.whole(1), r.whole(-1));
    r.makes("-3/2:0,0,0,0,0", "over", r.whole(1), r.number(-2, 3));
    r.makes("3/2:0,0,0,0,0", "over", r.whole(-1), r.number(-2, 3));
    r.due(-3, "ratio", r.whole(1), r.number(-2, 3), 0);
    r.due(2, "ratio", r.whole(1), r.number(-2, 3), 1);
  }

  private static void partsOfNumbers() {
    Run r = new Run();
    r.makes("999999:0,0,0,0,0", "number", 999999, 1);
    r.makes("1000000:0,0,0,0,0", "number", 1000000, 1);
    r.refused(Run.STATE, "number", 1000001, 1);
    r.makes("-1000000:0,0,0,0,0", "number", -1000000, 1);
    r.makes("-1000000:0,0,0,0,0", "number", 1000000, -1);
    r.refused(Run.STATE, "number", -1000001, 1);
    r.refused(Run.STATE, "number", 1000001, -1);
    r.makes("1/1000000:0,0,0,0,0", "number", 1, 1000000);
    r.makes("-1/1000000:0,0,0,0,0", "number", 1, -1000000);
    r.refused(Run.STATE, "number", 1, 1000001);
    r.refused(Run.STATE, "number", 1, -1000001);
    r.refused(Run.STATE, "number", 1000001, 1000000);
    r.refused(Run.STATE, "number", 1000000, 1000001);
    r.makes("1000000:0,0,0,0,0", "number", 2000000, 2);
    r.refused(Run.STATE, "number", 2000002, 2);
    r.makes("1/1000000:0,0,0,0,0", "number", 2, 2000000);
    r.refused(Run.STATE, "number", 2, 2000002);
    partsOfNumbersThatWrap();
  }

  private static void partsOfNumbersThatWrap() {
    Run r = new Run();
    r.makes("1:0,0,0,0,0", "number", LEAST, LEAST);
    r.makes("-1/2:0,0,0,0,0", "number", 1 << 30, LEAST);
    r.makes("-2:0,0,0,0,0", "number", LEAST, 1 << 30);
    r.makes("-524288:0,0,0,0,0", "number", LEAST, 4096);
    r.makes("524288:0,0,0,0,0", "number", LEAST, -4096);
    r.makes("-1/524288:0,0,0,0,0", "number", 4096, LEAST);
    r.makes("1:0,0,0,0,0", "number", GREATEST, GREATEST);
    r.makes("-1:0,0,0,0,0", "number", -GREATEST, GREATEST);
    r.refused(Run.STATE, "number", LEAST, 2048);
    r.refused(Run.STATE, "number", 2048, LEAST);
    r.refused(Run.STATE, "number", LEAST, 1);
    r.refused(Run.STATE, "number", LEAST, -1);
    r.refused(Run.STATE, "number", 1, LEAST);
    r.refused(Run.STATE, "number", -1, LEAST);
    r.refused(Run.STATE, "number", LEAST, GREATEST);
    r.refused(Run.STATE, "number", GREATEST, LEAST);
    r.refused(Run.STATE, "number", GREATEST, 1);
    r.refused(Run.STATE, "number", 1, GREATEST);
  }

  private static void partsOfSums() {
    Run r = new Run();
    r.makes("1000000:0,0,0,0,0", "add", r.whole(999999), r.whole(1));
    r.refused(Run.STATE, "add", r.whole(1000000), r.whole(1));
    r.refused(Run.STATE, "add", r.whole(1), r.whole(1000000));
    r.makes("999999:0,0,0,0,0", "add", r.whole(1000000), r.whole(-1));
    r.makes("-1000000:0,0,0,0,0", "add", r.whole(-999999), r.whole(-1));
    r.refused(Run.STATE, "add", r.whole(-1000000), r.whole(-1));
    r.makes("1999/999000:0,0,0,0,0", "add", r.number(1, 1000), r.number(1, 999));
    r.refused(Run.STATE, "add", r.number(1, 1000), r.number(1, 1001));
    r.refused(Run.STATE, "add", r.number(-1, 1000), r.number(1, 1001));
    r.makes("1/500000:0,0,0,0,0", "add", r.number(1, 1000000), r.number(1, 1000000));
    r.refused(Run.STATE, "add", r.number(1, 1000000), r.whole(1));
    r.makes("1:0,0,0,0,0", "add", r.number(1, 1000000), r.number(999999, 1000000));
    r.refused(Run.STATE, "add", r.number(1, 999999), r.number(1, 1000000));
    int great = r.one(1000000, 1, 0, 0, 1);
    r.makes("1000000:0,0,1,0,0 1000000:0,0,0,0,0", "add", great, r.whole(1000000));
    r.refused(Run.STATE, "add", great, r.x());
  }

  private static void partsOfProducts() {
    Run r = new Run();
    r.makes("1000000:0,0,0,0,0", "times", r.whole(1000), r.whole(1000));
    r.refused(Run.STATE, "times", r.whole(1000), r.whole(1001));
    r.makes("-1000000:0,0,0,0,0", "times", r.whole(1000), r.whole(-1000));
    r.refused(Run.STATE, "times", r.whole(-1000), r.whole(1001));
    r.makes("1/1000000:0,0,0,0,0", "times", r.number(1, 1000), r.number(1, 1000));
    r.refused(Run.STATE, "times", r.number(1, 1000), r.number(1, 1001));
    r.makes("1000000:0,0,0,0,0", "times", r.whole(1000000), r.whole(1));
    r.makes("1:0,0,0,0,0", "times", r.whole(1000000), r.number(1, 1000000));
    r.makes("1000000/999999:0,0,0,0,0", "times", r.whole(1000000), r.number(1, 999999));
    r.refused(Run.STATE, "times", r.whole(1000000), r.whole(1000000));
    r.refused(Run.STATE, "times", r.whole(-1000000), r.whole(-1000000));
    r.refused(Run.STATE, "times", r.number(1, 1000000), r.number(1, 1000000));
    // 65536 times 65536 would be 0 in an int
    r.refused(Run.STATE, "times", r.whole(65536), r.whole(65536));
    r.refused(Run.STATE, "times", r.number(1, 65536), r.number(1, 65536));
  }

  private static void partsOfQuotients() {
    Run r = new Run();
    r.makes("1000000:0,0,0,0,0", "over", r.whole(500000), r.number(1, 2));
    r.refused(Run.STATE, "over", r.whole(500001), r.number(1, 2));
    r.makes("-1000000:0,0,0,0,0", "over", r.whole(500000), r.number(-1, 2));
    r.refused(Run.STATE, "over", r.whole(-500001), r.number(1, 2));
    r.makes("1/1000000:0,0,0,0,0", "over", r.number(1, 500000), r.whole(2));
    r.refused(Run.STATE, "over", r.number(1, 500001), r.whole(2));
    r.refused(Run.STATE, "over", r.number(1, 500001), r.whole(-2));
    r.makes("1000000:0,0,0,0,0", "over", r.whole(1), r.number(1, 1000000));
    r.makes("1/1000000:0,0,0,0,0", "over", r.whole(1), r.whole(1000000));
    r.refused(Run.STATE, "over", r.whole(2), r.number(1, 1000000));
    r.makes("1:0,0,0,0,0", "over", r.whole(1000000), r.whole(1000000));
    r.refused(Run.STATE, "over", r.whole(1000000), r.number(1, 1000000));
    r.refused(Run.STATE, "over", r.number(1, 1000000), r.whole(1000000));
    r.refused(Run.STATE, "over", r.whole(65536), r.number(1, 65536));
  }

  private static void partsOfSlopes() {
    Run r = new Run();
    r.makes("1000000:1,0,1,0,0", "derive", r.one(500000, 1, 1));
    r.refused(Run.STATE, "derive", r.one(500001, 1, 1));
    r.makes("-1000000:1,0,1,0,0", "derive", r.one(-500000, 1, 1));
    r.refused(Run.STATE, "derive", r.one(-500001, 1, 1));
    r.makes("500001:1,0,1,0,0", "derive", r.one(500001, 2, 1));
    int[] exponents = new int[5];
    String[] slope = {"", "1000000:0,2,0,0,0", "1000000:0,0,1,0,0", "1000000:0,0,-1,1,0",
      "1000000:0,0,-1,-1,1"};
    for (int kind = 1; kind < 5; kind++) {
      exponents[kind] = 2;
      r.makes(slope[kind], "derive", r.one(500000, 1, exponents));
      r.refused(Run.STATE, "derive", r.one(500001, 1, exponents));
      r.refused(Run.STATE, "derive", r.one(-500001, 1, exponents));
      exponents[kind] = 0;
    }
    Run t = new Run();
    t.makes("1000000:0,1,0,0,0", "derive", t.one(1000000, 1, 0, 1));
    t.makes("1000000:0,0,0,0,0", "derive", t.one(1000000, 1, 0, 0, 1));
    t.makes("99/1000000:0,0,98,0,0", "derive", t.one(1, 1000000, 0, 0, 99));
    t.makes("1000000:0,99,0,0,0", "derive", t.one(1000000, 99, 0, 99));
    // the q part adds 500000 to the a part of the TERM that is above it
    int half = t.one(500000, 1, 0, 1, 1);
    t.makes("500000:0,1,1,0,0 1000000:0,1,0,0,0", "derive", t.sum(half, t.one(500000, 1, 0, 1)));
    t.refused(Run.STATE, "derive", t.sum(half, t.one(500001, 1, 0, 1)));
  }

  private static void above() {
    String[] high = {"1:1,-2,-2,-2,-2", "1:0,1,-2,-2,-2", "1:0,0,1,-2,-2", "1:0,0,0,1,-2",
      "1:0,0,0,0,1"};
    String[] low = {"1:0,2,2,2,2", "1:0,0,2,2,2", "1:0,0,0,2,2", "1:0,0,0,0,2",
      "1:0,0,0,0,0"};
    for (int cell = 0; cell < 5; cell++) {
      int[] more = new int[5];
      int[] less = new int[5];
      more[cell] = 1;
      for (int later = cell + 1; later < 5; later++) {
        more[later] = -2;
        less[later] = 2;
      }
      Run r = new Run();
      int first = r.one(1, 1, more);
      int second = r.one(1, 1, less);
      r.makes(high[cell] + " " + low[cell], "add", first, second);
      r.makes(high[cell] + " " + low[cell], "add", second, first);
      r.due(1, "compare", first, second);
      r.due(-1, "compare", second, first);
      r.due(0, "compare", second, second);
    }
  }

  private static void tenTermsOfSums() {
    Run r = new Run();
    int nine = r.powersOfX(9);
    int ten = r.make("add", nine, r.letter(0));
    r.due(9, "terms", nine);
    r.due(10, "terms", ten);
    r.refused(Run.STATE, "add", ten, r.letter(1));
    r.refused(Run.STATE, "add", r.letter(1), ten);
    r.refused(Run.STATE, "add", ten, r.letter(4));
    r.refused(Run.STATE, "add", ten, r.one(1, 1, -1));
    r.due(10, "terms", r.make("add", ten, r.letter(0)));
    r.due(10, "terms", r.make("add", ten, ten));
    r.due(9, "terms", r.make("add", ten, r.one(-1, 1, 1)));
    int log = r.make("times", ten, r.letter(3));
    r.due(10, "terms", log);
    r.refused(Run.STATE, "add", ten, log);
    int other = r.make("add", r.letter(1), r.letter(4));
    r.refused(Run.STATE, "add", nine, other);
    r.refused(Run.STATE, "add", other, nine);
  }

  private static void tenTermsOfProducts() {
    Run r = new Run();
    int five = r.powersOfX(5);
    int two = r.make("add", r.letter(4), r.letter(3));
    int ten = r.make("times", five, two);
    r.due(10, "terms", ten);
    r.due(10, "terms", r.make("times", two, five));
    int six = r.powersOfX(6);
    r.refused(Run.STATE, "times", six, two);
    r.refused(Run.STATE, "times", two, six);
    int sum = r.make("add", r.x(), r.whole(1));
    int nine = r.powersOfX(9);
    r.due(10, "terms", r.make("times", nine, sum));
    r.due(10, "terms", r.make("times", sum, nine));
    int whole = r.powersOfX(10);
    r.refused(Run.STATE, "times", whole, sum);
    r.refused(Run.STATE, "times", sum, whole);
    r.refused(Run.STATE, "times", whole, whole);
    r.refused(Run.STATE, "times", whole, ten);
    r.due(10, "terms", r.make("times", whole, r.letter(0)));
    r.due(0, "terms", r.make("times", whole, r.number(0, 1)));
  }

  private static void tenTermsOfQuotients() {
    Run r = new Run();
    int ten = r.powersOfX(10);
    int through = r.make("over", ten, r.one(2, 1, 0, 1, 5));
    r.due(10, "terms", through);
    r.due(4, "term", through, 0, 2);
    r.due(-5, "term", through, 9, 2);
    r.makesNone("over", ten, ten);
    r.makesNone("over", r.x(), ten);
  }

  private static void tenTermsOfSlopes() {
    Run r = new Run();
    int ten = r.make("times", r.powersOfX(10), r.x());
    r.due(10, "terms", r.make("derive", ten));
    r.due(9, "terms", r.make("derive", r.powersOfX(10)));
    int five = r.make("times", r.powersOfX(5), r.letter(3));
    // the last one, L, has one part, the others two: x^k L and x^k
    r.due(9, "terms", r.make("derive", five));
    int fiveMore = r.make("times", five, r.x());
    r.due(10, "terms", r.make("derive", fiveMore));
    int six = r.make("add", five, r.one(1, 1, 0, 0, 5, 1));
    r.refused(Run.STATE, "derive", six);
    int most = r.make("times", ten, r.one(1, 1, 1, 1, 0, 1, 1));
    r.due(10, "terms", most);
    r.refused(Run.STATE, "derive", most);
    r.due(5, "terms", r.make("derive", r.one(1, 1, 1, 1, 1, 1, 1)));
  }

  private static void highestFirst() {
    int[][] orders = {{0, 1, 2}, {0, 2, 1}, {1, 0, 2}, {1, 2, 0}, {2, 0, 1}, {2, 1, 0}};
    for (int[] order : orders) {
      Run r = new Run();
      r.letter(0);
      r.letter(2);
      r.letter(4);
      int sum = r.sum(order);
      r.reads(sum, "1:1,0,0,0,0 1:0,0,1,0,0 1:0,0,0,0,1");
      r.makes("1:1,0,0,0,1 1:0,0,1,0,1 1:0,0,0,0,2", "times", 2, sum);
      r.makes("1:1,0,0,0,-1 1:0,0,1,0,-1 1:0,0,0,0,0", "over", sum, 2);
      r.makes("2:1,0,1,0,0 1:0,0,0,0,0 1:0,0,-1,-1,0", "derive", sum);
    }
  }

  private static void ofNoneItIsZero() {
    Run r = new Run();
    int[] zeros = {
      r.make("number", 0, 1),
      r.make("add", r.whole(1), r.whole(-1)),
      r.make("times", r.number(0, 1), r.x()),
      r.make("over", r.number(0, 1), r.x()),
      r.make("derive", r.whole(1)),
      r.make("derive", r.number(0, 1)),
      r.make("logarithm", r.whole(1)),
    };
    for (int zero : zeros) {
      r.due(0, "terms", zero);
      r.due(0, "limit", zero);
      r.due(0, "value", zero, 0);
      r.due(1, "value", zero, 1);
      r.due(0, "sign", zero);
      r.due(1, "same", zero, zeros[0]);
      r.due(0, "compare", zero, zeros[0]);
      r.due(-1, "compare", zero, r.whole(1));
      r.refused(Run.ARGUMENT, "term", zero, 0, 0);
    }
  }

  private static void handles() {
    Run r = new Run();
    for (int i = 0; i < 16; i++) {
      for (int kind = 0; kind < 5; kind++) {
        r.due(i * 5 + kind, "count");
        r.make("letter", kind);
      }
    }
    r.due(80, "count");
    for (int f = 0; f < 80; f += 13) {
      r.reads(f, LETTERS[f % 5]);
    }
    r.reads(79, LETTERS[4]);
    r.refused(Run.STATE, "letter", 0);
    r.refused(Run.INDEX, "terms", 80);
    r.due(1, "terms", 79);
    r.due(1, "terms", 0);
    r.refused(Run.INDEX, "terms", -1);
  }

  /** The last handle with as many TERMS as there may be, in each call that takes a handle. */
  private static void lastHandle() {
    Run r = new Run();
    int ten = r.powersOfX(10);
    r.fillTo(79);
    int last = r.make("times", ten, r.x());
    for (int k = 0; k < 10; k++) {
      r.due(10 - k, "term", last, k, 2);
      r.due(1, "term", last, k, 6);
    }
    r.refused(Run.ARGUMENT, "term", last, 10, 0);
    r.due(10, "terms", last);
    r.due(1, "limit", last);
    r.due(1, "sign", last);
    r.due(1, "same", last, last);
    r.due(0, "same", last, ten);
    r.due(0, "same", ten, last);
    r.due(1, "compare", last, ten);
    r.due(-1, "compare", ten, last);
    r.due(1, "ratio", last, last, 0);
    r.refused(Run.STATE, "ratio", last, ten, 0);
    r.refused(Run.STATE, "value", last, 0);
    r.refused(Run.STATE, "add", last, last);
    r.refused(Run.STATE, "times", last, last);
    r.refused(Run.STATE, "over", last, r.x());
    r.refused(Run.STATE, "derive", last);
    Run number = new Run();
    number.fillTo(79);
    number.make("number", -3, 4);
    number.due(-3, "value", 79, 0);
    number.due(4, "value", 79, 1);
    Run zero = new Run();
    zero.fillTo(79);
    zero.make("number", 0, 1);
    zero.due(0, "value", 79, 0);
    zero.due(1, "value", 79, 1);
    zero.due(0, "terms", 79);
    zero.due(0, "limit", 79);
    zero.due(0, "sign", 79);
    zero.due(-1, "compare", 79, 78);
    zero.due(1, "same", 79, 79);
    zero.due(0, "same", 79, 78);
  }

  private static void added() {
    Run r = new Run();
    int sum = r.sum(r.x(), r.letter(3), r.whole(1));
    r.makes("2:0,0,1,0,0 1:0,0,0,1,0 1:0,0,0,0,0", "add", sum, r.x());
    r.makes("1:0,0,1,0,0 2:0,0,0,1,0 1:0,0,0,0,0", "add", sum, r.letter(3));
    r.makes("1:0,0,1,0,0 1:0,0,0,1,0 3/2:0,0,0,0,0", "add", sum, r.number(1, 2));
    r.makes("2:0,0,1,0,0 2:0,0,0,1,0 2:0,0,0,0,0", "add", sum, sum);
    int one = r.sum(r.x(), r.whole(1));
    r.makes("1:0,0,2,0,0 2:0,0,1,0,0 1:0,0,0,0,0", "times", one, one);
    // one EXPONENT that differs, whichever it is, makes another TERM
    for (int kind = 0; kind < 5; kind++) {
      int near = r.make("times", r.x(), r.letter(kind));
      r.due(2, "terms", r.make("add", r.x(), near));
      r.due(1, "terms", r.make("add", near, near));
    }
  }

  private static void itGoes() {
    Run r = new Run();
    int sum = r.sum(r.x(), r.letter(3), r.whole(1));
    r.makes("1:0,0,0,1,0 1:0,0,0,0,0", "add", sum, r.one(-1, 1, 0, 0, 1));
    r.makes("1:0,0,1,0,0 1:0,0,0,0,0", "add", sum, r.one(-1, 1, 0, 0, 0, 1));
    r.makes("1:0,0,1,0,0 1:0,0,0,1,0", "add", sum, r.whole(-1));
    r.makes("", "add", sum, r.make("times", r.whole(-1), sum));
    r.makes("", "add", r.number(1, 1000000), r.number(-1, 1000000));
    r.makes("", "add", r.whole(-1000000), r.whole(1000000));
    r.makes("1/1000000:0,0,0,0,0", "add", r.whole(1), r.number(-999999, 1000000));
    int plus = r.make("add", r.x(), r.whole(1));
    int minus = r.make("add", r.x(), r.whole(-1));
    r.makes("1:0,0,2,0,0 -1:0,0,0,0,0", "times", plus, minus);
    // e^x x - e^x has the slope e^x x: the parts e^x and -e^x go
    int slope = r.make("add", r.one(1, 1, 0, 1, 1), r.one(-1, 1, 0, 1));
    r.makes("1:0,1,1,0,0", "derive", slope);
    int gone = r.makes("", "add", r.x(), r.one(-1, 1, 0, 0, 1));
    r.makes("1:0,0,1,0,0", "add", gone, r.x());
  }

  private static void oneMore() {
    Run r = new Run();
    r.makes("1:0,0,1,0,0 1/1000000:0,0,0,0,0", "add", r.x(), r.number(1, 1000000));
    r.makes("1:0,0,1,0,0 1:0,0,0,1,0", "add", r.letter(3), r.x());
    r.makes("1:0,0,0,0,1", "add", r.number(0, 1), r.letter(4));
    r.makes("1:0,0,2,0,0 1:0,0,1,1,0 1:0,0,1,0,1 1:0,0,0,1,1", "times",
        r.sum(r.x(), r.letter(3)), r.sum(r.x(), r.letter(4)));
  }

  private static void sumOfTwo() {
    Run r = new Run();
    int ten = r.powersOfX(10);
    int minus = r.make("times", r.whole(-1), ten);
    r.makes("", "add", ten, minus);
    r.makes("", "add", minus, ten);
    r.makes("2:0,0,0,0,0", "add", ten, r.make("add", minus, r.whole(2)));
    r.makes("2:0,0,0,0,0", "add", r.make("add", minus, r.whole(2)), ten);
    r.due(1, "same", ten, r.make("add", ten, r.number(0, 1)));
    r.due(1, "same", ten, r.make("add", r.number(0, 1), ten));
    int each = r.make("add", r.letter(0), r.one(1, 1, -1));
    r.makes("1:1,0,0,0,0 1:0,0,1,0,0 1:0,0,0,0,0 1:-1,0,0,0,0", "add",
        r.make("add", r.x(), r.whole(1)), each);
  }

  /** Three products fall on x x x alone, and what is added first decides. */
  private static void orderOfProduct() {
    Run r = new Run();
    int right = r.sum(r.power(2, 3), r.power(2, 2), r.whole(1));
    int high = r.one(600000, 1, 0, 0, 3);
    int middle = r.one(600000, 1, 0, 0, 1);
    int low = r.whole(600000);
    int minusHigh = r.one(-600000, 1, 0, 0, 3);
    int minusMiddle = r.one(-600000, 1, 0, 0, 1);
    int minusLow = r.whole(-600000);
    int lastLess = r.sum(high, middle, minusLow);
    r.refused(Run.STATE, "times", lastLess, right);
    r.makes("600000:0,0,6,0,0 600000:0,0,5,0,0 600000:0,0,4,0,0 600000:0,0,3,0,0"
        + " -600000:0,0,2,0,0 600000:0,0,1,0,0 -600000:0,0,0,0,0", "times", right, lastLess);
    int firstLess = r.sum(minusHigh, middle, low);
    r.refused(Run.STATE, "times", right, firstLess);
    r.makes("-600000:0,0,6,0,0 -600000:0,0,5,0,0 600000:0,0,4,0,0 600000:0,0,3,0,0"
        + " 600000:0,0,2,0,0 600000:0,0,1,0,0 600000:0,0,0,0,0", "times", firstLess, right);
    int middleLess = r.sum(high, minusMiddle, low);
    String want = "600000:0,0,6,0,0 600000:0,0,5,0,0 -600000:0,0,4,0,0 600000:0,0,3,0,0"
        + " 600000:0,0,2,0,0 -600000:0,0,1,0,0 600000:0,0,0,0,0";
    r.makes(want, "times", middleLess, right);
    r.makes(want, "times", right, middleLess);
    int allMore = r.sum(high, middle, low);
    r.refused(Run.STATE, "times", allMore, right);
    r.refused(Run.STATE, "times", right, allMore);
    r.makes("1:0,0,6,0,0 2:0,0,5,0,0 1:0,0,4,0,0 2:0,0,3,0,0 2:0,0,2,0,0 1:0,0,0,0,0",
        "times", right, right);
  }

  /** The parts of x L M, x L and x that fall on 1 are added in this order. */
  private static void orderOfSlope() {
    Run r = new Run();
    int high = r.one(600000, 1, 0, 0, 1, 1, 1);
    int middle = r.one(600000, 1, 0, 0, 1, 1);
    int low = r.one(600000, 1, 0, 0, 1);
    int minusHigh = r.one(-600000, 1, 0, 0, 1, 1, 1);
    int minusMiddle = r.one(-600000, 1, 0, 0, 1, 1);
    int minusLow = r.one(-600000, 1, 0, 0, 1);
    r.refused(Run.STATE, "derive", r.sum(high, middle, minusLow));
    r.makes("-600000:0,0,0,1,1 600000:0,0,0,1,0 -600000:0,0,0,0,1 600000:0,0,0,0,0",
        "derive", r.sum(minusHigh, middle, low));
    r.makes("600000:0,0,0,1,1 -600000:0,0,0,1,0 600000:0,0,0,0,1 600000:0,0,0,0,0",
        "derive", r.sum(high, minusMiddle, low));
    r.refused(Run.STATE, "derive", r.sum(minusHigh, minusMiddle, low));
    r.refused(Run.STATE, "derive", r.sum(high, middle, low));
  }

  private static void partsOfSlope() {
    Run r = new Run();
    r.makes("2:1,0,1,0,0", "derive", r.letter(0));
    r.makes("1:0,1,0,0,0", "derive", r.letter(1));
    r.makes("1:0,0,0,0,0", "derive", r.letter(2));
    r.makes("1:0,0,-1,0,0", "derive", r.letter(3));
    r.makes("1:0,0,-1,-1,0", "derive", r.letter(4));
    r.makes("-2:-1,0,1,0,0", "derive", r.power(0, -1));
    r.makes("-1:0,-1,0,0,0", "derive", r.power(1, -1));
    r.makes("-1:0,0,-2,0,0", "derive", r.power(2, -1));
    r.makes("-1:0,0,-1,-2,0", "derive", r.power(3, -1));
    r.makes("-1:0,0,-1,-1,-2", "derive", r.power(4, -1));
    r.makes("", "derive", r.whole(7));
    r.makes("", "derive", r.number(0, 1));
    r.makes("1:1,3,6,7,2 3/2:1,3,5,7,2 5/2:1,3,4,7,2 7/2:1,3,4,6,2 1:1,3,4,6,1",
        "derive", r.one(1, 2, 1, 3, 5, 7, 2));
    r.makes("-3:-1,0,2,0,3 3/2:-1,0,0,0,3 9/2:-1,0,0,-1,2",
        "derive", r.one(3, 2, -1, 0, 1, 0, 3));
  }

  /** x gets 1001 times 1000, then -1000 times 1, which would be 1000000 in the end. */
  private static void aboveOnTheWay() {
    Run r = new Run();
    int right = r.sum(r.x(), r.whole(1000));
    int left = r.sum(r.one(1001, 1, 0, 0, 1), r.whole(-1000));
    r.refused(Run.STATE, "times", left, right);
    r.refused(Run.STATE, "times", right, left);
    int less = r.sum(r.one(1000, 1, 0, 0, 1), r.whole(-1000));
    r.makes("1000:0,0,2,0,0 999000:0,0,1,0,0 -1000000:0,0,0,0,0", "times", less, right);
    r.makes("1000:0,0,2,0,0 999000:0,0,1,0,0 -1000000:0,0,0,0,0", "times", right, less);
  }

  /** x gets 1/1001 times 1/1000, then 1/1001, which would be 1/1000 in the end. */
  private static void belowOnTheWay() {
    Run r = new Run();
    int left = r.sum(r.one(1, 1001, 0, 0, 1), r.number(1, 143));
    int right = r.sum(r.one(1, 7, 0, 0, 1), r.number(1, 1000));
    r.refused(Run.STATE, "times", left, right);
    r.refused(Run.STATE, "times", right, left);
    int less = r.sum(r.one(1, 7, 0, 0, 1), r.number(1, 500));
    r.makes("1/7007:0,0,2,0,0 501/500500:0,0,1,0,0 1/71500:0,0,0,0,0", "times", left, less);
  }

  /** x x x gets 1/1000, 1/1001 and -1/1001 in one order or the other. */
  private static void addedBelowOnTheWay() {
    Run r = new Run();
    int right = r.sum(r.power(2, 3), r.power(2, 2), r.whole(1));
    int left = r.sum(r.one(1, 1000, 0, 0, 3), r.one(1, 1001, 0, 0, 1), r.number(-1, 1001));
    r.refused(Run.STATE, "times", left, right);
    r.makes("1/1000:0,0,6,0,0 1/1000:0,0,5,0,0 1/1001:0,0,4,0,0 1/1000:0,0,3,0,0"
        + " -1/1001:0,0,2,0,0 1/1001:0,0,1,0,0 -1/1001:0,0,0,0,0", "times", right, left);
  }

  private static void lastTermTooGreat() {
    Run r = new Run();
    int sum = r.sum(r.letter(0), r.x(), r.whole(1000000));
    r.refused(Run.STATE, "times", sum, r.whole(2));
    r.refused(Run.STATE, "over", sum, r.number(1, 2));
    r.refused(Run.STATE, "add", sum, r.whole(1));
    r.makes("1/2:1,0,0,0,0 1/2:0,0,1,0,0 500000:0,0,0,0,0", "over", sum, r.whole(2));
    int deep = r.sum(r.letter(0), r.x(), r.power(1, -99));
    r.refused(Run.STATE, "times", deep, r.power(1, -1));
    r.refused(Run.STATE, "over", deep, r.letter(1));
    r.makes("1:1,1,0,0,0 1:0,1,1,0,0 1:0,-98,0,0,0", "times", deep, r.letter(1));
    int slope = r.sum(r.letter(0), r.x(), r.power(2, -99));
    r.refused(Run.STATE, "derive", slope);
    int first = r.sum(r.one(1000000, 1, 1), r.x());
    r.refused(Run.STATE, "times", first, r.whole(2));
    r.refused(Run.STATE, "derive", first);
    r.refused(Run.STATE, "add", first, r.letter(0));
  }

  /** On the way there may be more than ten, before some go or behind that. */
  private static void manyInSums() {
    Run r = new Run();
    int ten = r.powersOfX(10);
    int higher = r.make("add", r.letter(0), r.whole(-1));
    int lower = r.make("add", r.one(-1, 1, 0, 0, 9), r.one(1, 1, -1));
    int f = r.make("add", ten, higher);
    r.due(10, "terms", f);
    r.due(1, "term", f, 0, 0);
    r.due(1, "term", f, 9, 2);
    f = r.make("add", ten, lower);
    r.due(10, "terms", f);
    r.due(8, "term", f, 0, 2);
    r.due(-1, "term", f, 9, 0);
    r.due(10, "terms", r.make("add", higher, ten));
    r.due(10, "terms", r.make("add", lower, ten));
    // five are more, then five go; with one less that goes there are eleven in the end
    int five = r.powersOfX(5);
    int less = r.make("times", r.whole(-1), five);
    int more = r.make("times", r.letter(0), five);
    f = r.make("add", ten, r.make("add", more, less));
    r.due(10, "terms", f);
    r.due(4, "term", f, 0, 2);
    r.due(5, "term", f, 9, 2);
    r.refused(Run.STATE, "add", ten, r.make("add", r.make("add", more, less), r.whole(1)));
    r.refused(Run.STATE, "add", ten, more);
  }

  private static void manyInProducts() {
    Run r = new Run();
    int ten = r.powersOfX(10);
    int minus = r.make("add", r.x(), r.whole(-1));
    r.makes("1:0,0,10,0,0 -1:0,0,0,0,0", "times", ten, minus);
    r.makes("1:0,0,10,0,0 -1:0,0,0,0,0", "times", minus, ten);
    int logs = r.whole(1);
    for (int i = 1; i < 5; i++) {
      logs = r.make("add", r.make("times", logs, r.letter(3)), r.whole(1));
    }
    // fifty TERMS on the way, ten in the end
    int both = r.make("times", logs, minus);
    r.due(10, "terms", both);
    String want = "1:0,0,10,4,0 1:0,0,10,3,0 1:0,0,10,2,0 1:0,0,10,1,0 1:0,0,10,0,0"
        + " -1:0,0,0,4,0 -1:0,0,0,3,0 -1:0,0,0,2,0 -1:0,0,0,1,0 -1:0,0,0,0,0";
    r.makes(want, "times", both, ten);
    r.makes(want, "times", ten, both);
    r.refused(Run.STATE, "times", r.make("add", both, r.whole(2)), ten);
    hundredInProducts();
  }

  private static void hundredInProducts() {
    Run r = new Run();
    int byX = r.powersOfX(10);
    int byLog = r.whole(1);
    for (int i = 1; i < 10; i++) {
      byLog = r.make("add", r.make("times", byLog, r.letter(3)), r.whole(1));
    }
    r.due(10, "terms", byLog);
    r.refused(Run.STATE, "times", byX, byLog);
    r.refused(Run.STATE, "times", byLog, byX);
    r.due(10, "terms", r.make("add", byX, byX));
  }

  private static void manyInSlopes() {
    Run r = new Run();
    // 3, 4 and 4 parts; the part x e^(x x) goes by the last TERM
    int three = r.sum(r.one(1, 1, 3, 0, 1, 1), r.one(1, 1, 2, 0, 2, 1, 1),
        r.one(1, 1, 1, 0, 2, 1, 1));
    r.refused(Run.STATE, "derive", three);
    int four = r.make("add", three, r.one(-1, 2, 1));
    r.makes("6:3,0,2,1,0 1:3,0,0,1,0 1:3,0,0,0,0"
        + " 4:2,0,3,1,1 2:2,0,1,1,1 1:2,0,1,0,1 1:2,0,1,0,0"
        + " 2:1,0,3,1,1 2:1,0,1,1,1 1:1,0,1,0,1", "derive", four);
    int stays = r.make("add", three, r.one(-1, 3, 1));
    r.refused(Run.STATE, "derive", stays);
  }

  private static void beyondSomeNumber() {
    Run r = new Run();
    int slow = r.one(1, 1000000, 0, 0, 0, 0, 1);
    int late = r.make("add", slow, r.whole(-1000000));
    r.due(1, "sign", late);
    r.due(1, "limit", late);
    r.due(1, "compare", late, r.whole(1000000));
    int fall = r.make("add", r.one(-1, 1000000, 0, 0, 1), r.one(1000000, 1, 0, 0, 0, 99));
    r.due(-1, "sign", fall);
    r.due(-1, "limit", fall);
    int gone = r.one(1000000, 1, 0, -1, 99);
    r.due(0, "limit", gone);
    r.due(0, "value", gone, 0);
    r.due(1, "sign", gone);
    r.due(-1, "compare", gone, r.one(1, 1000000, 0, 0, -99));
    r.due(1, "compare", r.one(1, 1000000, 1, -99), r.one(1000000, 1, 0, 99));
    int near = r.make("add", r.number(-1, 1000000), r.one(1000000, 1, 0, 0, 0, 0, -1));
    r.due(-1, "sign", near);
    r.due(0, "limit", near);
    r.due(-1, "value", near, 0);
    r.due(1000000, "value", near, 1);
  }

  /** Every call that takes a handle refuses this one, whichever of its handles it is. */
  private static void refusesHandle(Run r, int good, int wrong) {
    String[] ofOne = {"derive", "logarithm", "exponential", "terms", "limit", "sign"};
    for (String name : ofOne) {
      r.refused(Run.INDEX, name, wrong);
    }
    String[] ofTwo = {"add", "times", "over", "compare", "same"};
    for (String name : ofTwo) {
      r.refused(Run.INDEX, name, wrong, good);
      r.refused(Run.INDEX, name, good, wrong);
      r.refused(Run.INDEX, name, wrong, wrong);
    }
    r.refused(Run.INDEX, "term", wrong, 0, 0);
    r.refused(Run.INDEX, "value", wrong, 0);
    r.refused(Run.INDEX, "ratio", wrong, good, 0);
    r.refused(Run.INDEX, "ratio", good, wrong, 0);
    r.refused(Run.INDEX, "ratio", wrong, wrong, 1);
  }

  private static void noFunction() {
    for (int wrong : new int[] {0, -1, 1, 79, 80, LEAST, GREATEST}) {
      refusesHandle(new Run(), wrong, wrong);
    }
  }

  private static void oneFunction() {
    for (int wrong : new int[] {1, -1, 2, 79, 80, LEAST, GREATEST}) {
      Run r = new Run();
      r.make("number", 1, 2);
      refusesHandle(r, 0, wrong);
      r.due(1, "terms", 0);
      r.due(1, "value", 0, 0);
    }
  }

  private static void allFunctions() {
    for (int wrong : new int[] {80, -1, 81, LEAST, GREATEST}) {
      Run r = new Run();
      r.fillTo(80);
      refusesHandle(r, 79, wrong);
      r.due(1, "terms", 79);
      r.due(0, "compare", 0, 79);
      r.due(1, "ratio", 79, 79, 0);
    }
  }

  private static final String[] MAKERS = {"number", "letter", "add", "times", "over", "derive",
    "logarithm", "exponential"};

  private static int[] givenFor(String maker) {
    switch (maker) {
      case "number": return new int[] {1, 2};
      case "add":
      case "times":
      case "over": return new int[] {0, 0};
      case "letter": return new int[] {3};
      default: return new int[] {0};
    }
  }

  private static void fullObject() {
    for (String last : MAKERS) {
      Run r = new Run();
      r.fillTo(79);
      r.make(last, givenFor(last));
      r.due(80, "count");
      for (String maker : MAKERS) {
        r.refused(Run.STATE, maker, givenFor(maker));
      }
      r.refused(Run.STATE, "number", 0, 1);
      r.refused(Run.STATE, "number", 1000001, 1);
      // what makes no function goes on
      r.due(1, "terms", 0);
      r.due(1, "term", 0, 0, 2);
      r.due(1, "limit", 0);
      r.due(0, "compare", 0, 1);
      r.due(1, "ratio", 0, 1, 1);
      r.due(1, "sign", 0);
      r.due(1, "same", 0, 1);
      r.due(0, "fastest", 3);
      r.due(80, "count");
    }
    Run r = new Run();
    r.make("number", 3, 4);
    r.fillTo(80);
    r.due(3, "value", 0, 0);
    r.due(4, "value", 0, 1);
  }

  private static void fullObjectAndNone() {
    Run r = new Run();
    r.make("number", 0, 1);
    r.make("number", 1, 2);
    r.fillTo(79);
    r.makesNone("over", 1, 0);
    r.makesNone("logarithm", 1);
    r.makesNone("exponential", 1);
    r.fillTo(80);
    r.refused(Run.STATE, "over", 1, 0);
    r.refused(Run.STATE, "logarithm", 1);
    r.refused(Run.STATE, "exponential", 1);
  }

  private static void firstBehindThrows() {
    Run r = new Run();
    r.make("letter", 2);
    r.make("number", 5, 1);
    r.refused(Run.ARITHMETIC, "number", 1000001, 0);
    r.refused(Run.INDEX, "term", 2, 9, 9);
    r.refused(Run.INDEX, "value", 2, 2);
    r.refused(Run.INDEX, "value", -1, -1);
    r.refused(Run.STATE, "value", 0, 2);
    r.refused(Run.STATE, "value", 0, -1);
    r.refused(Run.ARGUMENT, "value", 1, 2);
    r.refused(Run.INDEX, "ratio", 2, 0, 2);
    r.refused(Run.INDEX, "ratio", 0, 2, 2);
    r.refused(Run.STATE, "ratio", 0, 1, 2);
    r.refused(Run.STATE, "ratio", 1, 0, -1);
    r.refused(Run.ARGUMENT, "ratio", 1, 1, 2);
    r.fillTo(80);
    r.refused(Run.ARITHMETIC, "number", 1, 0);
    r.refused(Run.ARITHMETIC, "number", 1000001, 0);
    r.refused(Run.ARGUMENT, "letter", 5);
    r.refused(Run.ARGUMENT, "letter", -1);
    for (String name : new String[] {"add", "times", "over"}) {
      r.refused(Run.INDEX, name, 80, 0);
      r.refused(Run.INDEX, name, 0, 80);
      r.refused(Run.INDEX, name, -1, 0);
      r.refused(Run.INDEX, name, 0, -1);
    }
    for (String name : new String[] {"derive", "logarithm", "exponential"}) {
      r.refused(Run.INDEX, name, 80);
      r.refused(Run.INDEX, name, -1);
    }
  }

  private static void nothingChanges() {
    Run r = new Run();
    int ten = r.powersOfX(10);
    int great = r.number(1000000, 1);
    int high = r.power(2, 99);
    int count = r.made();
    r.refused(Run.ARITHMETIC, "number", 7, 0);
    r.refused(Run.STATE, "number", 7, 1000001);
    r.refused(Run.ARGUMENT, "letter", 5);
    r.refused(Run.STATE, "add", great, great);
    r.refused(Run.INDEX, "add", ten, count);
    r.refused(Run.STATE, "times", ten, ten);
    r.refused(Run.INDEX, "times", count, ten);
    r.refused(Run.STATE, "over", r.number(1, 2), great);
    r.refused(Run.INDEX, "over", ten, -1);
    r.makesNone("over", high, ten);
    r.refused(Run.STATE, "derive", r.one(1, 1, 1, 0, 99));
    r.makesNone("logarithm", ten);
    r.makesNone("exponential", ten);
    r.refused(Run.ARGUMENT, "term", ten, 10, 0);
    r.refused(Run.STATE, "value", ten, 0);
    r.refused(Run.ARGUMENT, "value", great, 2);
    r.refused(Run.STATE, "ratio", ten, great, 0);
    r.refused(Run.ARGUMENT, "ratio", ten, ten, 2);
    r.refused(Run.ARGUMENT, "fastest", -1);
    r.reads(ten, "1:0,0,9,0,0 1:0,0,8,0,0 1:0,0,7,0,0 1:0,0,6,0,0 1:0,0,5,0,0"
        + " 1:0,0,4,0,0 1:0,0,3,0,0 1:0,0,2,0,0 1:0,0,1,0,0 1:0,0,0,0,0");
    r.reads(great, "1000000:0,0,0,0,0");
    r.reads(high, "1:0,0,99,0,0");
    r.due(r.made(), "count");
    r.makes("1:0,0,0,0,1", "letter", 4);
  }
}
