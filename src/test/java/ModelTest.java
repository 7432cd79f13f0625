import java.math.BigInteger;
import java.util.ArrayList;
import java.util.List;
import java.util.Random;
import java.util.TreeSet;

/** Runs of calls, the same every time, each answer against a second model written straight from the document. */
public final class ModelTest {
  private static final int RUNS = 400;
  private static final int CALLS = 512;
  private static final int[][] SHAPES = {
      {7, 13, 25, 49, 35, 22, 44, 26, 52, 42}, {21, 37, 25, 41, 22, 38, 26, 42},
      {7, 11, 13, 14}, {3, 6, 12, 24, 48, 33}, {3, 6, 5, 24, 48, 40}, {15, 23, 27, 29, 30},
      {31, 47, 55, 59, 61, 62}, {11, 13, 14, 19, 21, 22}, {63}};

  private static int wrong = 0;

  private static final class Model {
    final List<TreeSet<Integer>> registers = new ArrayList<>();

    Model() {
      for (int r = 0; r < 4; r++) registers.add(new TreeSet<>());
    }

    static boolean register(int r) { return 0 <= r && r <= 3; }
    static boolean set(int s) { return 1 <= s && s <= 63; }
    static boolean degreeRange(int k) { return 0 <= k && k <= 5; }
    static int degree(int set) { return Integer.bitCount(set) - 1; }

    int add(int r, int set) {
      if (!register(r) || !set(set)) return -1;
      for (int part = set; part > 0; part = (part - 1) & set) registers.get(r).add(part);
      return registers.get(r).size();
    }

    int take(int r, int set) {
      if (!register(r) || !set(set)) return -1;
      registers.get(r).removeIf(s -> (s & set) == set);
      return registers.get(r).size();
    }

    int apply(int op, int d, int a, int b) {
      if (op < 0 || op > 2 || !register(d) || !register(a) || !register(b)) return 0;
      TreeSet<Integer> result = new TreeSet<>();
      for (int s = 1; s < 64; s++) {
        boolean inA = registers.get(a).contains(s);
        boolean inB = registers.get(b).contains(s);
        boolean in = op == 0 ? inA || inB : op == 1 ? inA && inB : s != 63 && !registers.get(a).contains(63 - s);
        if (in) result.add(s);
      }
      registers.set(d, result);
      return 1;
    }

    int link(int d, int a, int set) {
      if (!register(d) || !register(a) || !set(set)) return 0;
      TreeSet<Integer> result = new TreeSet<>();
      for (int s : registers.get(a)) if ((s & set) == set && s != set) result.add(s - set);
      registers.set(d, result);
      return 1;
    }

    int skeleton(int d, int a, int k) {
      if (!register(d) || !register(a) || !degreeRange(k)) return 0;
      TreeSet<Integer> result = new TreeSet<>(registers.get(a));
      result.removeIf(s -> degree(s) > k);
      registers.set(d, result);
      return 1;
    }

    int has(int r, int set) {
      return register(r) && set(set) && registers.get(r).contains(set) ? 1 : 0;
    }

    static List<Integer> ofDegree(Iterable<Integer> sets, int k) {
      List<Integer> result = new ArrayList<>();
      for (int s : sets) if (degree(s) == k) result.add(s);
      return result;
    }

    int count(int r, int k) {
      return register(r) && degreeRange(k) ? ofDegree(registers.get(r), k).size() : -1;
    }

    int balance(int r) {
      int sum = 0;
      if (register(r)) for (int s : registers.get(r)) sum += Integer.bitCount(s) % 2 == 1 ? 1 : -1;
      return sum;
    }

    List<Integer> facetList(int r) {
      List<Integer> result = new ArrayList<>();
      for (int s : registers.get(r)) {
        if (registers.get(r).stream().noneMatch(t -> t != s && (t & s) == s)) result.add(s);
      }
      return result;
    }

    int facets(int r) { return register(r) ? facetList(r).size() : -1; }

    int facet(int r, int k) {
      if (!register(r)) return -1;
      List<Integer> list = facetList(r);
      return k >= 0 && k < list.size() ? list.get(k) : -2;
    }

    /** A row for each set of degree k: its edge, as multiples of the sets of degree k - 1. */
    static BigInteger[][] edges(Iterable<Integer> sets, int k) {
      List<Integer> whole = ofDegree(sets, k);
      List<Integer> parts = k == 0 ? new ArrayList<>() : ofDegree(sets, k - 1);
      BigInteger[][] rows = new BigInteger[whole.size()][parts.size()];
      for (int i = 0; i < whole.size(); i++) {
        for (int j = 0; j < parts.size(); j++) {
          int left = whole.get(i) & ~parts.get(j);
          boolean part = (whole.get(i) & parts.get(j)) == parts.get(j);
          int before = Integer.bitCount(whole.get(i) & (left - 1));
          rows[i][j] = BigInteger.valueOf(!part ? 0 : before % 2 == 0 ? 1 : -1);
        }
      }
      return rows;
    }

    /** The rank by Gauss and Jordan: over the rests modulo p, or with whole numbers crossed if p is 0. */
    static int rank(BigInteger[][] m, int p) {
      BigInteger modulus = BigInteger.valueOf(p);
      int rank = 0;
      int columns = m.length == 0 ? 0 : m[0].length;
      for (BigInteger[] row : m) for (int c = 0; c < columns && p != 0; c++) row[c] = row[c].mod(modulus);
      for (int c = 0; c < columns; c++) {
        int found = rank;
        while (found < m.length && m[found][c].signum() == 0) found++;
        if (found == m.length) continue;
        BigInteger[] lead = m[found];
        m[found] = m[rank];
        m[rank] = lead;
        for (int i = 0; i < m.length; i++) {
          BigInteger factor = m[i][c];
          if (i == rank || factor.signum() == 0) continue;
          for (int j = 0; j < columns; j++) {
            BigInteger crossed = m[i][j].multiply(lead[c]).subtract(lead[j].multiply(factor));
            m[i][j] = p == 0 ? crossed : crossed.mod(modulus);
          }
        }
        rank++;
      }
      return rank;
    }

    static int dimension(Iterable<Integer> sets, int k, int p) {
      return ofDegree(sets, k).size() - rank(edges(sets, k), p) - rank(edges(sets, k + 1), p);
    }

    int holes(int r, int k, int p) {
      if (!register(r) || !degreeRange(k) || p != 0 && p != 2 && p != 3 && p != 5) return -1;
      return dimension(registers.get(r), k, p);
    }

    int relative(int a, int b, int k) {
      if (!register(a) || !register(b) || !degreeRange(k)) return -1;
      TreeSet<Integer> left = new TreeSet<>(registers.get(a));
      left.removeAll(registers.get(b));
      return dimension(left, k, 2);
    }

    int torsion(int r, int k) {
      if (!register(r) || !degreeRange(k)) return -1;
      BigInteger[][] m = edges(registers.get(r), k + 1);
      BigInteger product = BigInteger.ONE;
      int[] corner;
      while ((corner = entry(m)) != null) {
        while (!clear(m, corner[0], corner[1])) { }
        product = product.multiply(m[corner[0]][corner[1]].abs());
        m[corner[0]][corner[1]] = BigInteger.ZERO;
      }
      return product.intValueExact();
    }

    static int[] entry(BigInteger[][] m) {
      for (int i = 0; i < m.length; i++) for (int j = 0; j < m[i].length; j++) if (m[i][j].signum() != 0) return new int[] {i, j};
      return null;
    }

    /** One pass of Euclid's steps between the corner and each entry of its row and column; true if they are 0 after it. */
    static boolean clear(BigInteger[][] m, int row, int column) {
      for (int i = 0; i < m.length; i++) {
        while (i != row && m[i][column].signum() != 0) {
          BigInteger times = m[i][column].divide(m[row][column]);
          for (int j = 0; j < m[i].length; j++) m[i][j] = m[i][j].subtract(times.multiply(m[row][j]));
          if (m[i][column].signum() == 0) break;
          BigInteger[] less = m[i];
          m[i] = m[row];
          m[row] = less;
        }
      }
      for (int j = 0; j < m[row].length; j++) {
        while (j != column && m[row][j].signum() != 0) {
          BigInteger times = m[row][j].divide(m[row][column]);
          for (BigInteger[] line : m) line[j] = line[j].subtract(times.multiply(line[column]));
          if (m[row][j].signum() == 0) break;
          for (BigInteger[] line : m) {
            BigInteger less = line[j];
            line[j] = line[column];
            line[column] = less;
          }
        }
      }
      for (int i = 0; i < m.length; i++) if (i != row && m[i][column].signum() != 0) return false;
      return true;
    }

    int surface(int r) {
      if (!register(r)) return -1;
      List<Integer> list = facetList(r);
      if (list.isEmpty()) return 0;
      int k = degree(list.get(0));
      if (k == 0) return 0;
      for (int f : list) if (degree(f) != k) return 0;
      for (int s : ofDegree(registers.get(r), k - 1)) {
        if (list.stream().filter(f -> (f & s) == s).count() != 2) return 0;
      }
      BigInteger[][] edges = edges(registers.get(r), k);
      for (int signs = 0; signs < 1 << list.size(); signs++) if (closed(edges, signs)) return 2;
      return 1;
    }

    static boolean closed(BigInteger[][] edges, int signs) {
      for (int j = 0; j < edges[0].length; j++) {
        int sum = 0;
        for (int i = 0; i < edges.length; i++) sum += (signs >> i & 1) == 0 ? edges[i][j].intValue() : -edges[i][j].intValue();
        if (sum != 0) return false;
      }
      return true;
    }

    int pieces(int r) {
      if (!register(r)) return -1;
      List<Integer> groups = new ArrayList<>();
      for (int s : registers.get(r)) {
        int joined = s;
        for (int g : groups) if ((g & s) != 0) joined |= g;
        groups.removeIf(g -> (g & s) != 0);
        groups.add(joined);
      }
      return groups.size();
    }
  }

  /** Mostly from 0 to most, at times just outside or far away. */
  private static int argument(Random dice, int most) {
    int cast = dice.nextInt(60);
    if (cast == 0) return -1;
    if (cast == 1) return most + 1;
    if (cast == 2) return dice.nextInt();
    return dice.nextInt(most + 1);
  }

  private static int shuffled(int set, int[] order) {
    int result = 0;
    for (int v = 0; v < 6; v++) if ((set >> v & 1) == 1) result |= 1 << order[v];
    return result;
  }

  private static int[] order(Random dice) {
    int[] order = {0, 1, 2, 3, 4, 5};
    for (int i = 5; i > 0; i--) {
      int j = dice.nextInt(i + 1);
      int v = order[i];
      order[i] = order[j];
      order[j] = v;
    }
    return order;
  }

  private static void due(int run, String call, int got, int want) {
    if (got != want) {
      wrong++;
      System.out.println("run " + run + ": " + call + " answered " + got + ", due is " + want);
    }
  }

  private static int one(boolean answer) { return answer ? 1 : 0; }

  /** Fills a register, emptied first, with a shape whose vertices are in another order. Answers the calls used. */
  private static int shape(int run, Random dice, SimplicialDesk x, Model m) {
    int r = dice.nextInt(4);
    int[] order = order(dice);
    int[] sets = SHAPES[dice.nextInt(SHAPES.length)];
    for (int v = 0; v < 6; v++) due(run, "take(" + r + ", " + (1 << v) + ")", x.take(r, 1 << v), m.take(r, 1 << v));
    for (int s : sets) {
      int set = shuffled(s, order);
      due(run, "add(" + r + ", " + set + ")", x.add(r, set), m.add(r, set));
    }
    due(run, "surface(" + r + ")", x.surface(r), m.surface(r));
    return 7 + sets.length;
  }

  private static void change(int run, Random dice, SimplicialDesk x, Model m) {
    int a = argument(dice, 3), b = argument(dice, 3), d = argument(dice, 3), k = argument(dice, 5), set = argument(dice, 63), op = argument(dice, 2);
    switch (dice.nextInt(9)) {
      case 0: case 1: case 2: due(run, "add(" + a + ", " + set + ")", x.add(a, set), m.add(a, set)); break;
      case 3: case 4: due(run, "take(" + a + ", " + set + ")", x.take(a, set), m.take(a, set)); break;
      case 5: case 6: due(run, "apply(" + op + ", " + d + ", " + a + ", " + b + ")", one(x.apply(op, d, a, b)), m.apply(op, d, a, b)); break;
      case 7: due(run, "link(" + d + ", " + a + ", " + set + ")", one(x.link(d, a, set)), m.link(d, a, set)); break;
      default: due(run, "skeleton(" + d + ", " + a + ", " + k + ")", one(x.skeleton(d, a, k)), m.skeleton(d, a, k));
    }
  }

  private static void ask(int run, Random dice, SimplicialDesk x, Model m) {
    int a = argument(dice, 3), b = argument(dice, 3), k = argument(dice, 5), set = argument(dice, 63), n = argument(dice, 12);
    int p = new int[] {0, 2, 3, 5, argument(dice, 6)}[dice.nextInt(5)];
    switch (dice.nextInt(11)) {
      case 0: due(run, "has(" + a + ", " + set + ")", one(x.has(a, set)), m.has(a, set)); break;
      case 1: due(run, "count(" + a + ", " + k + ")", x.count(a, k), m.count(a, k)); break;
      case 2: due(run, "balance(" + a + ")", x.balance(a), m.balance(a)); break;
      case 3: due(run, "facets(" + a + ")", x.facets(a), m.facets(a)); break;
      case 4: due(run, "facet(" + a + ", " + n + ")", x.facet(a, n), m.facet(a, n)); break;
      case 5: due(run, "holes(" + a + ", " + k + ", " + p + ")", x.holes(a, k, p), m.holes(a, k, p)); break;
      case 6: due(run, "torsion(" + a + ", " + k + ")", x.torsion(a, k), m.torsion(a, k)); break;
      case 7: due(run, "relative(" + a + ", " + b + ", " + k + ")", x.relative(a, b, k), m.relative(a, b, k)); break;
      case 8: due(run, "surface(" + a + ")", x.surface(a), m.surface(a)); break;
      case 9: due(run, "pieces(" + a + ")", x.pieces(a), m.pieces(a)); break;
      default: due(run, "level(" + (n - 5) + ")", one(x.level(n - 5)), n == 5 || n == 6 ? 1 : 0);
    }
  }

  private static void run(int run) {
    Random dice = new Random(run);
    SimplicialDesk x = new SimplicialDesk();
    Model m = new Model();
    int changes = 1 + dice.nextInt(6);
    int calls = 0;
    while (calls < CALLS - 20) {
      int cast = dice.nextInt(100);
      if (cast < 2) {
        calls += shape(run, dice, x, m);
      } else if (cast < 10 * changes) {
        change(run, dice, x, m);
        calls++;
      } else {
        ask(run, dice, x, m);
        calls++;
      }
    }
    for (int r = 0; r < 4; r++) due(run, "facets(" + r + ") at the end", x.facets(r), m.facets(r));
  }

  public static void main(String[] args) {
    for (int i = 1; i <= RUNS && wrong < 100; i++) run(i);
    System.out.println(wrong == 0 ? "all answers are as due" : wrong + " answers are not as due");
    if (wrong != 0) System.exit(1);
  }
}
