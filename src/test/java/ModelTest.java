import java.math.BigInteger;
import java.util.ArrayList;
import java.util.Comparator;
import java.util.List;
import java.util.Map;
import java.util.TreeMap;

/**
 * Long runs of mixed calls, the same every time, each answer held against a plain model of the
 * document. Exceptions must be of the very class that is due and come from a throw of the class.
 */
public final class ModelTest {
  private static final int RUNS = 3000;
  private static final int CALLS = 512;
  private static final int CALLS_TO_LOOK_BACK = 80;
  private static final int MAKERS = 8;
  private static final int KINDS = 18;

  private static int wrong = 0;
  private static long seed = 20261115L;

  public static void main(String[] args) {
    int[] answered = new int[KINDS];
    int[] thrown = new int[KINDS];
    for (int run = 0; run < RUNS && wrong < 20; run++) {
      run(run, answered, thrown);
    }
    for (int kind = 0; kind < KINDS; kind++) {
      if (answered[kind] == 0 || thrown[kind] == 0 && kind != KINDS - 1) {
        wrong++;
        System.out.println("never answered or never thrown: call of kind " + kind);
      }
    }
    System.out.println(wrong == 0 ? "all runs are as the model's" : wrong + " answers differ");
    if (wrong != 0) {
      System.exit(1);
    }
  }

  private static int below(int bound) {
    seed = seed * 6364136223846793005L + 1442695040888963407L;
    return (int) ((seed >>> 33) % bound);
  }

  private static void run(int run, int[] answered, int[] thrown) {
    GrowthLimits real = new GrowthLimits();
    Model model = new Model();
    int makers = 1 + below(9);
    for (int i = 0; i < CALLS - CALLS_TO_LOOK_BACK && wrong < 20; i++) {
      int kind = below(10) < makers ? below(MAKERS) : MAKERS + below(KINDS - MAKERS);
      int[] call = {kind, argument(kind, 0, model), argument(kind, 1, model), below(9) - 1};
      String want = answerOfModel(model, call);
      String got = answerOfReal(real, call);
      if (want.startsWith("throws")) {
        thrown[kind]++;
      } else {
        answered[kind]++;
      }
      if (!got.equals(want)) {
        wrong++;
        System.out.println("run " + run + ", call " + i + ", " + java.util.Arrays.toString(call)
            + " answered " + got + ", due is " + want);
      }
    }
    lookBack(run, real, model);
  }

  private static int argument(int kind, int place, Model model) {
    int count = model.kept.size();
    if (below(40) == 0) {
      int[] odd = {-1, count, 80, 32, Integer.MIN_VALUE, Integer.MAX_VALUE, 0};
      return odd[below(odd.length)];
    }
    if (kind == 0) {
      int[] sizes = {4, 12, 101, 1002, 1000003, 3000000};
      return below(sizes[below(sizes.length)]) * (below(2) == 0 ? 1 : -1);
    }
    if (kind == 1) {
      return below(5);
    }
    if (kind == 16) {
      int mask = count < 31 ? (1 << count) - 1 : -1;
      return (below(1 << 16) << 16 | below(1 << 16)) & mask;
    }
    if ((kind == 9 && place == 1) || (kind == 11 && place == 1)) {
      return below(kind == 9 ? 11 : 3);
    }
    return count == 0 ? 0 : below(3) > 0 ? below(count) : count - 1 - below(Math.min(count, 6));
  }

  private static String answerOfReal(GrowthLimits g, int[] c) {
    try {
      switch (c[0]) {
        case 0: return "" + g.number(c[1], c[2]);
        case 1: return "" + g.letter(c[1]);
        case 2: return "" + g.add(c[1], c[2]);
        case 3: return "" + g.times(c[1], c[2]);
        case 4: return "" + g.over(c[1], c[2]);
        case 5: return "" + g.derive(c[1]);
        case 6: return "" + g.logarithm(c[1]);
        case 7: return "" + g.exponential(c[1]);
        case 8: return "" + g.terms(c[1]);
        case 9: return "" + g.term(c[1], c[2], c[3]);
        case 10: return "" + g.limit(c[1]);
        case 11: return "" + g.value(c[1], c[2]);
        case 12: return "" + g.compare(c[1], c[2]);
        case 13: return "" + g.ratio(c[1], c[2], c[3]);
        case 14: return "" + g.sign(c[1]);
        case 15: return "" + g.same(c[1], c[2]);
        case 16: return "" + g.fastest(c[1]);
        default: return "" + g.count();
      }
    } catch (RuntimeException e) {
      boolean own = e.getStackTrace()[0].getClassName().startsWith("GrowthLimits")
          && !"/ by zero".equals(e.getMessage());
      return own ? "throws " + e.getClass().getSimpleName() : "the machine throws " + e;
    }
  }

  private static String answerOfModel(Model m, int[] c) {
    try {
      return m.answer(c);
    } catch (Refusal refusal) {
      return "throws " + refusal.getMessage();
    }
  }

  /** Nothing that was kept may have changed by later calls: the last ones read some of it. */
  private static void lookBack(int run, GrowthLimits real, Model model) {
    int count = model.kept.size();
    int calls = CALLS_TO_LOOK_BACK;
    int f = count == 0 ? 0 : below(count);
    for (int i = 0; i < count && wrong < 20; i++) {
      TreeMap<int[], Fraction> want = model.kept.get(f);
      calls -= 1 + 7 * want.size();
      if (calls < 0) {
        return;
      }
      if (!reads(real, f, want)) {
        wrong++;
        System.out.println("run " + run + ": function " + f + " differs in the end");
      }
      f = (f + 1) % count;
    }
  }

  private static boolean reads(GrowthLimits real, int f, TreeMap<int[], Fraction> want) {
    boolean fits = real.terms(f) == want.size();
    int k = 0;
    for (Map.Entry<int[], Fraction> term : want.entrySet()) {
      for (int what = 0; what < 5; what++) {
        fits = fits && real.term(f, k, what) == term.getKey()[what];
      }
      fits = fits && real.term(f, k, 5) == term.getValue().above.intValueExact()
          && real.term(f, k, 6) == term.getValue().below.intValueExact();
      k++;
    }
    return fits;
  }

  private static final class Refusal extends RuntimeException {
    private static final long serialVersionUID = 1L;

    Refusal(String name) {
      super(name, null, false, false);
    }
  }

  private static final class Fraction {
    final BigInteger above;
    final BigInteger below;

    Fraction(BigInteger above, BigInteger below) {
      BigInteger divisor = above.gcd(below);
      divisor = below.signum() < 0 ? divisor.negate() : divisor;
      this.above = above.divide(divisor);
      this.below = below.divide(divisor);
    }

    static Fraction of(long above, long below) {
      return new Fraction(BigInteger.valueOf(above), BigInteger.valueOf(below));
    }

    Fraction plus(Fraction o) {
      return new Fraction(above.multiply(o.below).add(o.above.multiply(below)),
          below.multiply(o.below));
    }

    Fraction times(Fraction o) {
      return new Fraction(above.multiply(o.above), below.multiply(o.below));
    }

    Fraction turned() {
      return new Fraction(below, above);
    }

    boolean is(Fraction o) {
      return above.equals(o.above) && below.equals(o.below);
    }

    Fraction checked() {
      BigInteger most = BigInteger.valueOf(1000000);
      if (above.abs().compareTo(most) > 0 || below.compareTo(most) > 0) {
        throw new Refusal("IllegalStateException");
      }
      return this;
    }
  }

  private static final class Model {
    static final Comparator<int[]> HIGHEST_FIRST = (a, b) -> java.util.Arrays.compare(b, a);
    static final int[][] LOGARITHMS = {{0, 0, 2, 0, 0}, {0, 0, 1, 0, 0}, {0, 0, 0, 1, 0},
      {0, 0, 0, 0, 1}};

    final List<TreeMap<int[], Fraction>> kept = new ArrayList<>();

    String answer(int[] c) {
      switch (c[0]) {
        case 0: return "" + number(c[1], c[2]);
        case 1: return "" + letter(c[1]);
        case 2: return "" + sum(c[1], c[2]);
        case 3: return "" + product(c[1], c[2]);
        case 4: return "" + quotient(c[1], c[2]);
        case 5: return "" + slope(c[1]);
        case 6: return "" + logarithm(c[1]);
        case 7: return "" + exponential(c[1]);
        case 8: return "" + at(c[1]).size();
        case 9: return "" + term(at(c[1]), c[2], c[3]);
        case 10: return "" + limit(at(c[1]));
        case 11: return "" + value(at(c[1]), c[2]);
        case 12: return "" + compare(at(c[1]), at(c[2]));
        case 13: return "" + ratio(at(c[1]), at(c[2]), c[3]);
        case 14: return "" + sign(at(c[1]));
        case 15: return "" + same(at(c[1]), at(c[2]));
        case 16: return "" + fastest(c[1]);
        default: return "" + kept.size();
      }
    }

    TreeMap<int[], Fraction> at(int f) {
      if (f < 0 || f >= kept.size()) {
        throw new Refusal("IndexOutOfBoundsException");
      }
      return kept.get(f);
    }

    void room() {
      if (kept.size() == 80) {
        throw new Refusal("IllegalStateException");
      }
    }

    int keep(TreeMap<int[], Fraction> f) {
      if (f.size() > 10) {
        throw new Refusal("IllegalStateException");
      }
      kept.add(f);
      return kept.size() - 1;
    }

    static TreeMap<int[], Fraction> none() {
      return new TreeMap<>(HIGHEST_FIRST);
    }

    static void put(TreeMap<int[], Fraction> onto, int[] exponents, Fraction number) {
      for (int exponent : exponents) {
        if (exponent < -99 || exponent > 99) {
          throw new Refusal("IllegalStateException");
        }
      }
      Fraction old = onto.get(exponents);
      Fraction all = old == null ? number : old.plus(number);
      if (all.above.signum() == 0) {
        onto.remove(exponents);
      } else {
        onto.put(exponents, all.checked());
      }
    }

    int number(int above, int below) {
      if (below == 0) {
        throw new Refusal("ArithmeticException");
      }
      room();
      TreeMap<int[], Fraction> f = none();
      put(f, new int[5], Fraction.of(above, below));
      return keep(f);
    }

    int letter(int kind) {
      if (kind < 0 || kind > 4) {
        throw new Refusal("IllegalArgumentException");
      }
      room();
      TreeMap<int[], Fraction> f = none();
      int[] exponents = new int[5];
      exponents[kind] = 1;
      put(f, exponents, Fraction.of(1, 1));
      return keep(f);
    }

    int sum(int a, int b) {
      TreeMap<int[], Fraction> first = at(a);
      TreeMap<int[], Fraction> second = at(b);
      room();
      TreeMap<int[], Fraction> f = none();
      f.putAll(first);
      second.forEach((exponents, number) -> put(f, exponents, number));
      return keep(f);
    }

    int product(int a, int b) {
      TreeMap<int[], Fraction> first = at(a);
      TreeMap<int[], Fraction> second = at(b);
      room();
      return keep(productOf(first, second));
    }

    static TreeMap<int[], Fraction> productOf(Map<int[], Fraction> a, Map<int[], Fraction> b) {
      TreeMap<int[], Fraction> f = none();
      a.forEach((i, m) -> b.forEach((j, n) -> {
        int[] exponents = new int[5];
        for (int what = 0; what < 5; what++) {
          exponents[what] = i[what] + j[what];
        }
        put(f, exponents, m.times(n).checked());
      }));
      return f;
    }

    int quotient(int a, int b) {
      TreeMap<int[], Fraction> first = at(a);
      TreeMap<int[], Fraction> second = at(b);
      room();
      if (second.size() != 1) {
        return -1;
      }
      int[] exponents = second.firstKey().clone();
      for (int what = 0; what < 5; what++) {
        exponents[what] = -exponents[what];
      }
      TreeMap<int[], Fraction> turned = none();
      turned.put(exponents, second.firstEntry().getValue().turned());
      return keep(productOf(first, turned));
    }

    int slope(int a) {
      TreeMap<int[], Fraction> of = at(a);
      room();
      int[][] more = {{0, 0, 1, 0, 0}, {0, 0, 0, 0, 0}, {0, 0, -1, 0, 0}, {0, 0, -1, -1, 0},
        {0, 0, -1, -1, -1}};
      TreeMap<int[], Fraction> f = none();
      of.forEach((e, number) -> {
        for (int part = 0; part < 5; part++) {
          if (e[part] != 0) {
            int[] exponents = e.clone();
            for (int what = 0; what < 5; what++) {
              exponents[what] += more[part][what];
            }
            long factor = part == 0 ? 2L * e[0] : e[part];
            put(f, exponents, number.times(Fraction.of(factor, 1)).checked());
          }
        }
      });
      return keep(f);
    }

    int logarithm(int a) {
      TreeMap<int[], Fraction> of = at(a);
      room();
      if (of.size() != 1 || of.firstKey()[4] != 0
          || !of.firstEntry().getValue().is(Fraction.of(1, 1))) {
        return -1;
      }
      TreeMap<int[], Fraction> f = none();
      for (int what = 0; what < 4; what++) {
        put(f, LOGARITHMS[what], Fraction.of(of.firstKey()[what], 1));
      }
      return keep(f);
    }

    int exponential(int a) {
      TreeMap<int[], Fraction> rest = none();
      rest.putAll(at(a));
      room();
      int[] exponents = new int[5];
      for (int what = 0; what < 4; what++) {
        Fraction number = rest.remove(LOGARITHMS[what]);
        if (number != null) {
          if (!number.below.equals(BigInteger.ONE) || number.above.abs().intValueExact() > 99) {
            return -1;
          }
          exponents[what] = number.above.intValueExact();
        }
      }
      if (!rest.isEmpty()) {
        return -1;
      }
      TreeMap<int[], Fraction> f = none();
      put(f, exponents, Fraction.of(1, 1));
      return keep(f);
    }

    static int term(TreeMap<int[], Fraction> f, int k, int what) {
      if (k < 0 || k >= f.size() || what < 0 || what > 6) {
        throw new Refusal("IllegalArgumentException");
      }
      int[] exponents = new ArrayList<>(f.keySet()).get(k);
      Fraction number = f.get(exponents);
      BigInteger part = what == 5 ? number.above : number.below;
      return what < 5 ? exponents[what] : part.intValueExact();
    }

    static int limit(TreeMap<int[], Fraction> f) {
      boolean grows = !f.isEmpty() && HIGHEST_FIRST.compare(f.firstKey(), new int[5]) < 0;
      return grows ? f.firstEntry().getValue().above.signum() : 0;
    }

    static BigInteger value(TreeMap<int[], Fraction> f, int part) {
      if (limit(f) != 0) {
        throw new Refusal("IllegalStateException");
      }
      Fraction number = f.get(new int[5]);
      return part(number == null ? Fraction.of(0, 1) : number, part);
    }

    static BigInteger part(Fraction number, int part) {
      if (part < 0 || part > 1) {
        throw new Refusal("IllegalArgumentException");
      }
      return part == 0 ? number.above : number.below;
    }

    static int compare(TreeMap<int[], Fraction> a, TreeMap<int[], Fraction> b) {
      if (a.isEmpty() || b.isEmpty()) {
        return Boolean.compare(b.isEmpty(), a.isEmpty());
      }
      return Integer.signum(HIGHEST_FIRST.compare(b.firstKey(), a.firstKey()));
    }

    static BigInteger ratio(TreeMap<int[], Fraction> a, TreeMap<int[], Fraction> b, int part) {
      if (a.isEmpty() || compare(a, b) != 0) {
        throw new Refusal("IllegalStateException");
      }
      return part(a.firstEntry().getValue().times(b.firstEntry().getValue().turned()), part);
    }

    static int sign(TreeMap<int[], Fraction> f) {
      return f.isEmpty() ? 0 : f.firstEntry().getValue().above.signum();
    }

    static boolean same(TreeMap<int[], Fraction> a, TreeMap<int[], Fraction> b) {
      boolean same = a.size() == b.size();
      for (Map.Entry<int[], Fraction> term : a.entrySet()) {
        Fraction other = b.get(term.getKey());
        same = same && other != null && other.is(term.getValue());
      }
      return same;
    }

    int fastest(int set) {
      List<Integer> handles = new ArrayList<>();
      for (int f = 0; f < 32; f++) {
        if ((set & 1 << f) != 0) {
          if (f >= kept.size()) {
            throw new Refusal("IllegalArgumentException");
          }
          handles.add(f);
        }
      }
      for (int f : handles) {
        boolean beaten = false;
        for (int other : handles) {
          beaten = beaten || compare(kept.get(other), kept.get(f)) > 0;
        }
        if (!beaten) {
          return f;
        }
      }
      return -1;
    }
  }
}
