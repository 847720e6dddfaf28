import java.util.ArrayList;
import java.util.HashMap;
import java.util.List;
import java.util.Map;

/**
 * One object under test, used for at most 512 calls, for nothing is promised of later ones. The
 * calls that made its functions are kept, so that equal objects can be made again to look at what
 * a refused call left behind.
 */
final class Run {
  static final Class<?> INDEX = IndexOutOfBoundsException.class;
  static final Class<?> STATE = IllegalStateException.class;
  static final Class<?> ARGUMENT = IllegalArgumentException.class;
  static final Class<?> ARITHMETIC = ArithmeticException.class;

  static final int MOST_CALLS = 512;
  private static final int CALLS_TO_READ_ONE = 1 + 10 * 7;

  private record Call(String name, int... given) {
    @Override
    public String toString() {
      StringBuilder out = new StringBuilder(name).append('(');
      for (int i = 0; i < given.length; i++) {
        out.append(i == 0 ? "" : ", ").append(given[i]);
      }
      return out.append(')').toString();
    }
  }

  private final GrowthLimits object = new GrowthLimits();
  private final List<Call> makers = new ArrayList<>();
  private final Map<String, Integer> builtOnce = new HashMap<>();
  private int calls = 0;

  int calls() {
    return calls;
  }

  int made() {
    return makers.size();
  }

  private static long answerOf(GrowthLimits g, Call c) {
    int[] n = c.given;
    switch (c.name) {
      case "number": return g.number(n[0], n[1]);
      case "letter": return g.letter(n[0]);
      case "add": return g.add(n[0], n[1]);
      case "times": return g.times(n[0], n[1]);
      case "over": return g.over(n[0], n[1]);
      case "derive": return g.derive(n[0]);
      case "logarithm": return g.logarithm(n[0]);
      case "exponential": return g.exponential(n[0]);
      case "terms": return g.terms(n[0]);
      case "term": return g.term(n[0], n[1], n[2]);
      case "limit": return g.limit(n[0]);
      case "value": return g.value(n[0], n[1]);
      case "compare": return g.compare(n[0], n[1]);
      case "ratio": return g.ratio(n[0], n[1], n[2]);
      case "sign": return g.sign(n[0]);
      case "same": return g.same(n[0], n[1]) ? 1 : 0;
      case "fastest": return g.fastest(n[0]);
      case "count": return g.count();
      default: throw new AssertionError("the test names no call of the face: " + c.name);
    }
  }

  /** The answer, or the exception's name; one that the machine throws is told apart. */
  private static String outcomeOf(GrowthLimits g, Call c) {
    try {
      return Long.toString(answerOf(g, c));
    } catch (RuntimeException e) {
      boolean thrownByTheClass = e.getStackTrace().length > 0
          && e.getStackTrace()[0].getClassName().startsWith("GrowthLimits")
          && !"/ by zero".equals(e.getMessage());
      return (thrownByTheClass ? "throws " : "the machine throws ") + e.getClass().getSimpleName();
    }
  }

  private String outcome(Call c) {
    calls++;
    if (calls > MOST_CALLS) {
      throw new AssertionError("the test itself makes more than 512 calls on one object");
    }
    return outcomeOf(object, c);
  }

  private static void mustBe(String what, String got, String want) {
    if (!got.equals(want)) {
      throw new AssertionError(what + " answered " + got + ", due is " + want);
    }
  }

  /** The call answers this. */
  void due(long want, String name, int... given) {
    Call c = new Call(name, given);
    mustBe(c.toString(), outcome(c), Long.toString(want));
  }

  /** The call makes a function, which has the next handle. */
  int make(String name, int... given) {
    Call c = new Call(name, given);
    mustBe(c.toString(), outcome(c), Integer.toString(makers.size()));
    makers.add(c);
    return makers.size() - 1;
  }

  /** The call makes this function. */
  int makes(String want, String name, int... given) {
    int f = make(name, given);
    reads(f, want);
    return f;
  }

  /** The call throws this very exception, and nothing has changed behind it. */
  void refused(Class<?> want, String name, int... given) {
    Call c = new Call(name, given);
    mustBe(c.toString(), outcome(c), "throws " + want.getSimpleName());
    mustChangeNothing(c);
  }

  /** The call answers -1 in place of a handle, and nothing has changed behind it. */
  void makesNone(String name, int... given) {
    Call c = new Call(name, given);
    mustBe(c.toString(), outcome(c), "-1");
    mustChangeNothing(c);
  }

  private void mustChangeNothing(Call c) {
    mustBe("what is there behind " + c, stateBehind(c), stateBehind(null));
  }

  /** All that calls can tell of an equal object, behind one more call if there is one. */
  private String stateBehind(Call more) {
    int readable = (MOST_CALLS - makers.size() - 1) / CALLS_TO_READ_ONE;
    if (readable == 0) {
      throw new AssertionError("the test leaves no calls to look behind a refused one");
    }
    StringBuilder out = new StringBuilder();
    GrowthLimits twin = twinBehind(more);
    for (int f = 0; f < makers.size(); f++) {
      if (f > 0 && f % readable == 0) {
        twin = twinBehind(more);
      }
      out.append(textOf(twin, f)).append(" | ");
    }
    return out.append(nextBehind(more)).toString();
  }

  private GrowthLimits twinBehind(Call more) {
    GrowthLimits twin = new GrowthLimits();
    for (Call c : makers) {
      answerOf(twin, c);
    }
    if (more != null) {
      outcomeOf(twin, more);
    }
    return twin;
  }

  /** What the next call answers, one of each kind that makes a function. */
  private String nextBehind(Call more) {
    int last = makers.size() - 1;
    Call[] next = {new Call("letter", 3), new Call("number", 2, 3), new Call("add", last, 0),
      new Call("times", 0, last), new Call("over", last, 0), new Call("derive", last),
      new Call("logarithm", last), new Call("exponential", last)};
    StringBuilder out = new StringBuilder();
    for (Call c : next) {
      GrowthLimits twin = twinBehind(more);
      int before = twin.count();
      out.append("count ").append(before).append(", ").append(c).append(' ');
      out.append(outcomeOf(twin, c));
      if (twin.count() > before) {
        out.append(": ").append(textOf(twin, before));
      }
      out.append("; ");
    }
    return out.toString();
  }

  /** A TERM is told as number:p,q,a,b,d; of none there is no text. */
  private static String textOf(GrowthLimits g, int f) {
    StringBuilder out = new StringBuilder();
    int terms = g.terms(f);
    for (int k = 0; k < terms; k++) {
      int below = g.term(f, k, 6);
      out.append(k == 0 ? "" : " ").append(g.term(f, k, 5));
      out.append(below == 1 ? "" : "/" + below).append(':');
      for (int what = 0; what < 5; what++) {
        out.append(what == 0 ? "" : ",").append(g.term(f, k, what));
      }
    }
    return out.toString();
  }

  /** The function has these TERMS, in this order. */
  void reads(int f, String want) {
    StringBuilder out = new StringBuilder();
    int terms = Integer.parseInt(outcome(new Call("terms", f)));
    for (int k = 0; k < terms; k++) {
      String below = outcome(new Call("term", f, k, 6));
      out.append(k == 0 ? "" : " ").append(outcome(new Call("term", f, k, 5)));
      out.append(below.equals("1") ? "" : "/" + below).append(':');
      for (int what = 0; what < 5; what++) {
        out.append(what == 0 ? "" : ",").append(outcome(new Call("term", f, k, what)));
      }
    }
    mustBe("function " + f, "[" + out + "]", "[" + want + "]");
  }

  /** Builders below use the same function again, to spare handles. */
  private int once(String name, int... given) {
    String key = new Call(name, given).toString();
    Integer known = builtOnce.get(key);
    if (known == null) {
      known = make(name, given);
      builtOnce.put(key, known);
    }
    return known;
  }

  int number(int above, int below) {
    return once("number", above, below);
  }

  int whole(int number) {
    return number(number, 1);
  }

  int letter(int kind) {
    return once("letter", kind);
  }

  int x() {
    return letter(2);
  }

  /** A letter to a power. */
  int power(int kind, int exponent) {
    if (exponent == 0) {
      return whole(1);
    }
    if (exponent == 1) {
      return letter(kind);
    }
    if (kind == 4) {
      return exponent > 0 ? powerOfM(exponent) : once("over", whole(1), powerOfM(-exponent));
    }
    int of = kind == 0 ? once("times", x(), x()) : letter(kind + 1);
    return once("exponential", once("times", whole(exponent), of));
  }

  private int powerOfM(int exponent) {
    if (exponent == 1) {
      return letter(4);
    }
    int half = powerOfM(exponent / 2);
    int square = once("times", half, half);
    return exponent % 2 == 0 ? square : once("times", square, letter(4));
  }

  /** A function of one TERM. */
  int one(int above, int below, int... exponents) {
    int f = -1;
    for (int kind = 0; kind < exponents.length; kind++) {
      if (exponents[kind] != 0) {
        int power = power(kind, exponents[kind]);
        f = f < 0 ? power : once("times", f, power);
      }
    }
    if (f < 0) {
      return number(above, below);
    }
    return above == 1 && below == 1 ? f : once("times", number(above, below), f);
  }

  /** A sum of functions that are there. */
  int sum(int... functions) {
    int f = functions[0];
    for (int i = 1; i < functions.length; i++) {
      f = once("add", f, functions[i]);
    }
    return f;
  }

  /** 1 + x + x x + .., of so many TERMS. */
  int powersOfX(int terms) {
    int f = whole(1);
    for (int i = 1; i < terms; i++) {
      f = once("add", once("times", f, x()), whole(1));
    }
    return f;
  }

  /** Letters until so many functions are there. */
  void fillTo(int functions) {
    while (makers.size() < functions) {
      make("letter", 2);
    }
  }
}
